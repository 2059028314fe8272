/** Promises 13 to 15: picks, taking out, cutting off. */
public final class WeaveTest {
    private static final Check CHECK = new Check();
    private static final int BAD = DobbyLoom.INVALID_ARGUMENT;
    private static final int STATE = DobbyLoom.ILLEGAL_STATE;
    private static final int FULL = DobbyLoom.CAPACITY_EXCEEDED;
    private static final int NONE = DobbyLoom.NONE;

    public static void main(String[] arguments) {
        weave();
        weaveErrors();
        sidesAndFaults();
        breaks();
        everyBreak();
        takeOut();
        cutOff();
        CHECK.close("WeaveTest");
    }

    private static void weave() {
        CHECK.begin("13 weave");
        DobbyLoom loom = Check.loomWith("01;12c1;23");
        CHECK.due("weave(4)", 4, loom.weave(4));
        CHECK.due("rows", 4, loom.count(5));
        CHECK.due("present bar", 1, loom.count(3));
        for (int row = 0; row < 4; row++) {
            CHECK.due("bar of row " + row, row % 3, loom.row(row, 1));
            CHECK.due("color of row " + row, row % 3 == 1 ? 1 : 0, loom.row(row, 0));
            CHECK.due("above in row " + row, 4, loom.row(row, 3));
        }
        CHECK.due("yarn(0)", 300 - 33, loom.yarn(0));
        CHECK.due("yarn(1)", 300 - 12, loom.yarn(1));
        loom.wind(0, 9999);
        loom.wind(1, 9999);
        CHECK.due("weave(64) with room for 60", 60, loom.weave(64));
        CHECK.due("rows", 64, loom.count(5));
        CHECK.due("present bar", 1, loom.count(3));
    }

    private static void weaveErrors() {
        CHECK.begin("13 weave, errors");
        DobbyLoom loom = new DobbyLoom();
        CHECK.due("weave(1) without bars", STATE, loom.weave(1));
        int[] bad = {0, -1, 65, Integer.MIN_VALUE, Integer.MAX_VALUE};
        for (int picks : bad) {
            CHECK.due("weave(" + picks + ")", BAD, loom.weave(picks));
        }
        Check.load(loom, "0;1");
        for (int picks : bad) {
            CHECK.due("weave(" + picks + ")", BAD, loom.weave(picks));
        }
        loom.wind(0, 0);
        CHECK.due("weave(5) without yarn", 1, loom.weave(5));
        CHECK.due("it has stepped on", 1, loom.count(3));
        CHECK.due("weave(1) while it stands", STATE, loom.weave(1));
        CHECK.due("weave(0) while it stands", BAD, loom.weave(0));
        loom.takeOut(1);
        loom.wind(0, 9999);
        CHECK.due("weave(63)", 63, loom.weave(63));
        loom.wind(0, 0);
        CHECK.due("weave(64) of the 64th", 1, loom.weave(64));
        CHECK.due("a full cloth that stands", STATE, loom.weave(1));
        loom.takeOut(1);
        loom.wind(0, 100);
        CHECK.due("weave(1)", 1, loom.weave(1));
        CHECK.due("a full cloth", FULL, loom.weave(1));
        CHECK.due("a full cloth, wrong picks", BAD, loom.weave(65));
    }

    private static void sidesAndFaults() {
        CHECK.begin("13 weave, sides");
        DobbyLoom loom = Check.loomWith("02");
        loom.setFault(0, 1);
        loom.setFault(3, 2);
        loom.weave(2);
        int[] above = {0, 0, 1, 1, 0, 0, 1, 1};
        int[] plan = {1, 0, 1, 0, 1, 0, 1, 0};
        for (int end = 0; end < 8; end++) {
            CHECK.due("above at " + end, above[end], loom.cell(1, end, 0));
            CHECK.due("plan at " + end, plan[end], loom.cell(1, end, 3));
            CHECK.due("wrong at " + end, above[end] ^ plan[end], loom.cell(1, end, 2));
        }
        CHECK.due("used", 11, loom.row(0, 2));
        CHECK.due("used", 11, loom.row(1, 2));
    }

    private static void breaks() {
        CHECK.begin("13 weave, breaks");
        DobbyLoom loom = Check.loomWith("01");
        // From the left: ends 0 1 need 1 1, end 2 needs 2, end 3 needs 1, and so on: 11 in all.
        loom.wind(0, 3);
        CHECK.due("weave(2)", 1, loom.weave(2));
        CHECK.due("without weft", 6, loom.row(0, 4));
        CHECK.due("used, for the last 1 is too little", 2, loom.row(0, 2));
        CHECK.due("yarn(0)", 1, loom.yarn(0));
        CHECK.due("above", 2, loom.row(0, 3));
        CHECK.due("cell(0, 1, 0)", 1, loom.cell(0, 1, 0));
        CHECK.due("cell(0, 2, 0)", NONE, loom.cell(0, 2, 0));
        CHECK.due("count(6)", 1, loom.count(6));
        loom.takeOut(1);
        loom.wind(0, 11 + 10);
        CHECK.due("weave(2)", 2, loom.weave(2));
        CHECK.due("the odd row lacks end 0", NONE, loom.cell(1, 0, 0));
        CHECK.due("the odd row has end 1", 1, loom.cell(1, 1, 0));
        CHECK.due("without weft", 1, loom.row(1, 4));
        CHECK.due("used", 10, loom.row(1, 2));
        CHECK.due("yarn(0)", 0, loom.yarn(0));
        loom.takeOut(1);
        loom.wind(0, 11);
        CHECK.due("just enough", 1, loom.weave(1));
        CHECK.due("count(6)", 0, loom.count(6));
        loom.setLoom(8, 32);
        loom.addBar(255, 0);
        loom.wind(0, 32 + 31);
        CHECK.due("weave(2) with 32 ends", 2, loom.weave(2));
        CHECK.due("the odd row lacks end 0 alone", 1, loom.row(1, 4));
        CHECK.due("cell(1, 0, 0)", NONE, loom.cell(1, 0, 0));
        CHECK.due("count(6)", 1, loom.count(6));
        loom.takeOut(2);
        loom.wind(0, 31);
        loom.weave(1);
        CHECK.due("the even row lacks end 31 alone", 1, loom.row(0, 4));
        CHECK.due("cell(0, 31, 0)", NONE, loom.cell(0, 31, 0));
        loom.takeOut(1);
        loom.wind(0, 0);
        loom.weave(1);
        CHECK.due("no weft at all", 32, loom.row(0, 4));
    }

    /** Each length of yarn in an even and in an odd row, against the needs of the ends one by one. */
    private static void everyBreak() {
        CHECK.begin("13 weave, every break");
        int[] needs = {1, 2, 2, 1, 2, 1, 1, 2, 2};
        for (int yarn = 0; yarn <= 15; yarn++) {
            int ends = 0;
            int used = 0;
            while (ends < 9 && used + needs[ends] <= yarn) {
                used += needs[ends];
                ends++;
            }
            for (int row = 0; row < 2; row++) {
                DobbyLoom loom = new DobbyLoom();
                loom.setLoom(2, 9);
                int[] shafts = {0, 1, 0, 0, 1, 1, 1, 0, 1};
                for (int place = 0; place < 9; place++) {
                    loom.setEnd(row == 0 ? place : 8 - place, shafts[place], 0);
                }
                loom.addBar(2, 0);
                loom.weave(row == 0 ? 1 : 2);
                loom.takeOut(1);
                loom.wind(0, yarn);
                CHECK.due("weave(1)", 1, loom.weave(1));
                String where = " with yarn " + yarn + " in row " + row;
                CHECK.due("used" + where, used, loom.row(row, 2));
                CHECK.due("left" + where, yarn - used, loom.yarn(0));
                CHECK.due("without weft" + where, 9 - ends, loom.row(row, 4));
                CHECK.due("standing" + where, ends < 9 ? 1 : 0, loom.count(6));
                for (int place = 0; place < 9; place++) {
                    int end = row == 0 ? place : 8 - place;
                    int due = place < ends ? shafts[place] : NONE;
                    CHECK.due("end " + end + where, due, loom.cell(row, end, 0));
                }
            }
        }
    }

    private static void takeOut() {
        CHECK.begin("14 takeOut");
        DobbyLoom loom = new DobbyLoom();
        int[] bad = {0, -1, 65, Integer.MIN_VALUE, Integer.MAX_VALUE};
        for (int rows : bad) {
            CHECK.due("takeOut(" + rows + ")", BAD, loom.takeOut(rows));
        }
        CHECK.due("takeOut(1) without bars", STATE, loom.takeOut(1));
        Check.load(loom, "01;12c1;23c2");
        CHECK.due("takeOut(1) without rows", STATE, loom.takeOut(1));
        loom.weave(5);
        CHECK.due("takeOut(6)", STATE, loom.takeOut(6));
        CHECK.due("takeOut(64)", STATE, loom.takeOut(64));
        CHECK.due("takeOut(2)", 3, loom.takeOut(2));
        CHECK.due("present bar", 0, loom.count(3));
        CHECK.due("yarn(0)", 289, loom.yarn(0));
        CHECK.due("yarn(1)", 288, loom.yarn(1));
        CHECK.due("yarn(2)", 289, loom.yarn(2));
        CHECK.due("row(3, 0)", BAD, loom.row(3, 0));
        loom.setDirection(1);
        CHECK.due("takeOut(1) when it runs backward", 2, loom.takeOut(1));
        CHECK.due("present bar", 1, loom.count(3));
        loom.setBar(1, 15, 9);
        loom.turnTo(2);
        CHECK.due("takeOut(2)", 0, loom.takeOut(2));
        CHECK.due("present bar", 1, loom.count(3));
        CHECK.due("the yarn comes to the color of the row", 300, loom.yarn(1));
        CHECK.due("yarn(9)", 300, loom.yarn(9));
        loom.setDirection(0);
        loom.turnTo(0);
        loom.wind(0, 4);
        loom.weave(1);
        CHECK.due("takeOut(1) of a broken row", 0, loom.takeOut(1));
        CHECK.due("the part that was laid comes back", 4, loom.yarn(0));
        CHECK.due("present bar", 0, loom.count(3));
        CHECK.due("count(6)", 0, loom.count(6));
        loom.wind(0, 9999);
        loom.weave(1);
        loom.wind(0, 9999);
        loom.takeOut(1);
        CHECK.due("more than 9999", 10010, loom.yarn(0));
        Check.load(loom, "-");
        loom.weave(3);
        CHECK.due("takeOut(3) with one bar", 0, loom.takeOut(3));
        CHECK.due("present bar", 0, loom.count(3));
    }

    private static void cutOff() {
        CHECK.begin("15 cutOff");
        DobbyLoom loom = Check.loomWith("01;12c1;23");
        CHECK.due("cutOff() of no rows", 0, loom.cutOff());
        loom.setDirection(1);
        loom.weave(4);
        int yarn = loom.yarn(0);
        CHECK.due("cutOff()", 4, loom.cutOff());
        CHECK.due("rows", 0, loom.count(5));
        CHECK.due("bars", 3, loom.count(2));
        CHECK.due("present bar", 2, loom.count(3));
        CHECK.due("direction", 1, loom.count(4));
        CHECK.due("yarn(0)", yarn, loom.yarn(0));
        loom.wind(0, 2);
        loom.weave(1);
        CHECK.due("the next row is number 0, from the left", 0, loom.cell(0, 0, 0));
        CHECK.due("cutOff() while it stands", STATE, loom.cutOff());
        CHECK.due("rows", 1, loom.count(5));
        loom.undo();
        loom.undo();
        loom.undo();
        CHECK.due("rows after undo() of cutOff", 4, loom.count(5));
        CHECK.due("row(3, 1)", 0, loom.row(3, 1));
    }
}
