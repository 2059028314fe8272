/** The boundary cases of Picks and Plan and of promises 13 to 15: a test for each sentence that names one. */
public final class ClothEdgeTest {
    private static final Check CHECK = new Check();
    private static final int BAD = DobbyLoom.INVALID_ARGUMENT;
    private static final int STATE = DobbyLoom.ILLEGAL_STATE;
    private static final int FULL = DobbyLoom.CAPACITY_EXCEEDED;
    private static final int NONE = DobbyLoom.NONE;

    public static void main(String[] arguments) {
        picksAreOneToSixtyFour();
        clothHasAtMostSixtyFourRows();
        weaveStopsAtAPickThatBreaks();
        weaveNeedsBarsAndALoomThatDoesNotStand();
        errorsOfWeaveInTheirOrder();
        weftIsLaidFromLeftInEvenRowsAndFromRightInOddOnes();
        eachEndNeedsOneOrTwo();
        asMuchAsNeededIsNotLess();
        whatWasLaidIsUsedUp();
        chainStepsOnWhetherThePickBrokeOrNot();
        othersThanPicksGoOnWhileTheLoomStands();
        bobbinOfTheColorAlone();
        rowsKeepBarAndPlan();
        takenOutRowsAreOneToSixtyFour();
        takeOutNeedsSoManyRows();
        takenOutYarnComesBack();
        takenOutYarnCanMakeMoreThanNineThousand();
        takeOutEndsTheStanding();
        cutOffRemovesAllRows();
        cutOffIsRefusedWhileTheLoomStands();
        CHECK.close("ClothEdgeTest");
    }

    /** This many ends on two shafts in turn, one bar that lifts shaft 1, and so much yarn: side by side differ. */
    private static DobbyLoom plainLoom(int ends, int yarn) {
        DobbyLoom loom = new DobbyLoom();
        loom.setLoom(2, ends);
        loom.addBar(2, 0);
        loom.wind(0, yarn);
        return loom;
    }

    private static void picksAreOneToSixtyFour() {
        CHECK.begin("weave: picks: 1 to 64");
        int[] bad = {Integer.MIN_VALUE, -1, 0, 65, 66, Integer.MAX_VALUE};
        for (int picks : bad) {
            DobbyLoom loom = plainLoom(4, 9999);
            CHECK.due("weave(" + picks + ")", BAD, loom.weave(picks));
            CHECK.due("count(5)", 0, loom.count(5));
        }
        for (int picks = 1; picks <= 64; picks++) {
            DobbyLoom loom = plainLoom(4, 9999);
            CHECK.due("weave(" + picks + ")", picks, loom.weave(picks));
            CHECK.due("count(5)", picks, loom.count(5));
            CHECK.due("yarn(0)", 9999 - 7 * picks, loom.yarn(0));
        }
    }

    private static void clothHasAtMostSixtyFourRows() {
        CHECK.begin("until the cloth has 64 rows; CAPACITY_EXCEEDED if the cloth has 64 rows");
        for (int rows = 1; rows < 64; rows++) {
            DobbyLoom loom = plainLoom(4, 9999);
            loom.weave(rows);
            CHECK.due("weave(64) after " + rows, 64 - rows, loom.weave(64));
            CHECK.due("weave(1) at 64", FULL, loom.weave(1));
            CHECK.due("weave(64) at 64", FULL, loom.weave(64));
            CHECK.due("count(5)", 64, loom.count(5));
            CHECK.due("the last row", 0, loom.row(63, 0));
            CHECK.due("the row behind it", BAD, loom.row(64, 0));
            CHECK.due("takeOut(1)", 63, loom.takeOut(1));
            CHECK.due("there is room for one again", 1, loom.weave(2));
            CHECK.due("but not for more", FULL, loom.weave(1));
        }
    }

    private static void weaveStopsAtAPickThatBreaks() {
        CHECK.begin("Makes picks, until one breaks (a broken one counts)");
        for (int whole = 0; whole < 64; whole++) {
            DobbyLoom loom = plainLoom(4, 7 * whole + 6);
            CHECK.due("weave(64)", whole + 1, loom.weave(64));
            CHECK.due("count(6)", 1, loom.count(6));
            CHECK.due("ends without weft in the last row", 1, loom.row(whole, 4));
            DobbyLoom exact = plainLoom(4, 7 * whole + 6);
            CHECK.due("weave of just as many", whole + 1, exact.weave(whole + 1));
            CHECK.due("count(6)", 1, exact.count(6));
            if (whole > 0) {
                DobbyLoom before = plainLoom(4, 7 * whole);
                CHECK.due("weave of one less", whole, before.weave(whole));
                CHECK.due("count(6)", 0, before.count(6));
            }
        }
        DobbyLoom full = plainLoom(4, 7 * 64);
        CHECK.due("yarn for 64", 64, full.weave(64));
        CHECK.due("count(6)", 0, full.count(6));
        CHECK.due("yarn(0)", 0, full.yarn(0));
    }

    private static void weaveNeedsBarsAndALoomThatDoesNotStand() {
        CHECK.begin("ILLEGAL_STATE if there are no bars, or the loom stands");
        DobbyLoom loom = new DobbyLoom();
        CHECK.due("without bars", STATE, loom.weave(1));
        loom.addBar(1, 0);
        CHECK.due("with a bar", 1, loom.weave(1));
        loom.setLoom(4, 8);
        CHECK.due("the bars are gone", STATE, loom.weave(1));
        loom.undo();
        CHECK.due("they are there again", 1, loom.weave(1));
        loom.wind(0, 0);
        CHECK.due("a pick without yarn", 1, loom.weave(1));
        CHECK.due("while it stands", STATE, loom.weave(1));
        loom.wind(0, 9999);
        CHECK.due("yarn does not mend it", STATE, loom.weave(1));
        loom.turnTo(0);
        CHECK.due("a turned chain does not mend it", STATE, loom.weave(1));
        Check.load(loom, "2c5");
        CHECK.due("another chain does not mend it", STATE, loom.weave(1));
        CHECK.due("takeOut(1)", 2, loom.takeOut(1));
        CHECK.due("taken out", 1, loom.weave(1));
    }

    private static void errorsOfWeaveInTheirOrder() {
        CHECK.begin("If several error conditions apply, the method returns the one that its description lists first");
        int[] bad = {0, 65};
        for (int picks : bad) {
            CHECK.due("no bars, and wrong picks", BAD, new DobbyLoom().weave(picks));
            DobbyLoom standing = plainLoom(4, 6);
            standing.weave(1);
            CHECK.due("standing, and wrong picks", BAD, standing.weave(picks));
            DobbyLoom full = plainLoom(4, 9999);
            full.weave(64);
            CHECK.due("full, and wrong picks", BAD, full.weave(picks));
            DobbyLoom both = plainLoom(4, 63 * 7 + 6);
            CHECK.due("64 rows, the last one broken", 64, both.weave(64));
            CHECK.due("full and standing, and wrong picks", BAD, both.weave(picks));
            CHECK.due("full and standing", STATE, both.weave(1));
        }
        int[] wrongRows = {0, 65};
        for (int rows : wrongRows) {
            CHECK.due("no bars, no rows, and wrong rows", BAD, new DobbyLoom().takeOut(rows));
            CHECK.due("no rows, and wrong rows", BAD, plainLoom(4, 6).takeOut(rows));
        }
    }

    private static void weftIsLaidFromLeftInEvenRowsAndFromRightInOddOnes() {
        CHECK.begin("from end 0 to end W - 1, if the number of the row is even, and to end 0, if it is odd");
        int[] widths = {4, 5, 31, 32};
        for (int ends : widths) {
            for (int row = 0; row < 64; row += row < 3 ? 1 : 60) {
                DobbyLoom loom = plainLoom(ends, 9999);
                if (row > 0) {
                    loom.weave(row);
                }
                loom.wind(0, 1);
                CHECK.due("weave(64)", 1, loom.weave(64));
                boolean even = row % 2 == 0;
                for (int end = 0; end < ends; end++) {
                    boolean reached = end == (even ? 0 : ends - 1);
                    int due = reached ? (even ? 0 : (ends - 1) % 2) : NONE;
                    CHECK.due("row " + row + ", end " + end + " of " + ends, due, loom.cell(row, end, 0));
                }
            }
        }
    }

    private static void eachEndNeedsOneOrTwo() {
        CHECK.begin("it needs 1, and 1 more if the end before it (in this order) is not on the same side");
        for (int ends = 4; ends <= 32; ends++) {
            DobbyLoom loom = plainLoom(ends, 9999);
            loom.weave(2);
            CHECK.due("all sides differ, even", 2 * ends - 1, loom.row(0, 2));
            CHECK.due("all sides differ, odd", 2 * ends - 1, loom.row(1, 2));
            loom.setBar(0, 0, 0);
            loom.weave(2);
            CHECK.due("all below, even", ends, loom.row(2, 2));
            CHECK.due("all below, odd", ends, loom.row(3, 2));
            loom.setBar(0, 3, 0);
            loom.weave(2);
            CHECK.due("all above, even", ends, loom.row(4, 2));
            CHECK.due("all above, odd", ends, loom.row(5, 2));
            loom.setLoom(2, ends);
            loom.addBar(2, 0);
            for (int end = 0; end < ends; end++) {
                loom.setEnd(end, end == ends - 1 ? 1 : 0, 0);
            }
            loom.weave(2);
            CHECK.due("the last end differs, even", ends + 1, loom.row(0, 2));
            CHECK.due("the last end differs, odd", ends + 1, loom.row(1, 2));
        }
    }

    private static void asMuchAsNeededIsNotLess() {
        CHECK.begin("If there is less yarn left than an end needs, the pick breaks at this end");
        int[] widths = {4, 32};
        for (int ends : widths) {
            for (int row = 0; row <= 1; row++) {
                for (int yarn = 0; yarn <= 2 * ends; yarn++) {
                    // The first end needs 1 and each other one 2, so that an even length leaves 1 over.
                    int reached = Math.min(ends, (yarn + 1) / 2);
                    int used = reached == 0 ? 0 : 2 * reached - 1;
                    DobbyLoom loom = plainLoom(ends, 9999);
                    if (row == 1) {
                        loom.weave(1);
                    }
                    loom.wind(0, yarn);
                    CHECK.due("weave(1)", 1, loom.weave(1));
                    String where = " of " + ends + " ends in row " + row + " with yarn " + yarn;
                    CHECK.due("without weft" + where, ends - reached, loom.row(row, 4));
                    CHECK.due("used" + where, used, loom.row(row, 2));
                    CHECK.due("left" + where, yarn - used, loom.yarn(0));
                    CHECK.due("standing" + where, reached < ends ? 1 : 0, loom.count(6));
                }
                expectSameSides(ends, row);
            }
        }
    }

    /** Where all ends are on one side, each one needs 1. */
    private static void expectSameSides(int ends, int row) {
        for (int yarn = 0; yarn <= ends; yarn++) {
            DobbyLoom loom = plainLoom(ends, 9999);
            loom.setBar(0, 3, 0);
            if (row == 1) {
                loom.weave(1);
            }
            loom.wind(0, yarn);
            loom.weave(1);
            CHECK.due("without weft, all above, with yarn " + yarn, ends - yarn, loom.row(row, 4));
            CHECK.due("above, with yarn " + yarn, yarn, loom.row(row, 3));
            CHECK.due("used, all above, with yarn " + yarn, yarn, loom.row(row, 2));
            CHECK.due("left, all above, with yarn " + yarn, 0, loom.yarn(0));
            CHECK.due("standing, all above, with yarn " + yarn, yarn < ends ? 1 : 0, loom.count(6));
        }
    }

    private static void whatWasLaidIsUsedUp() {
        CHECK.begin("What was laid is used up");
        DobbyLoom loom = plainLoom(4, 7 + 4);
        CHECK.due("weave(2)", 2, loom.weave(2));
        CHECK.due("the whole pick", 7, loom.row(0, 2));
        CHECK.due("the broken pick", 3, loom.row(1, 2));
        CHECK.due("1 is too little for an end that needs 2", 1, loom.yarn(0));
    }

    private static void chainStepsOnWhetherThePickBrokeOrNot() {
        CHECK.begin("After a pick the chain steps on, whether it broke or not");
        for (int backward = 0; backward <= 1; backward++) {
            DobbyLoom loom = Check.loomWith("0;1;2");
            loom.setDirection(backward);
            loom.wind(0, 0);
            loom.weave(1);
            CHECK.due("a broken pick by bar 0", backward == 1 ? 2 : 1, loom.count(3));
            loom.takeOut(1);
            CHECK.due("and back", 0, loom.count(3));
            loom.turnTo(backward == 1 ? 1 : 2);
            loom.weave(1);
            CHECK.due("a broken pick over the end", 0, loom.count(3));
            loom.takeOut(1);
            CHECK.due("and back over the end", backward == 1 ? 1 : 2, loom.count(3));
        }
    }

    private static void othersThanPicksGoOnWhileTheLoomStands() {
        CHECK.begin("While the last row is broken, the loom stands: no pick can be made");
        DobbyLoom loom = plainLoom(4, 6);
        loom.weave(1);
        CHECK.due("addBar", 1, loom.addBar(0, 1));
        CHECK.due("setBar", 20, loom.setBar(0, 1, 1));
        CHECK.due("setEnd", 0, loom.setEnd(0, 1, 2));
        CHECK.due("setFault", 0, loom.setFault(0, 1));
        CHECK.due("setDirection", 0, loom.setDirection(1));
        CHECK.due("turnTo", 0, loom.turnTo(1));
        CHECK.due("wind", 1, loom.wind(0, 8));
        CHECK.due("load", 1, Check.load(loom, "-"));
        CHECK.due("count(6)", 1, loom.count(6));
        CHECK.due("yarnFor", 4, loom.yarnFor(0, 1));
        CHECK.due("setLoom", 1, loom.setLoom(2, 4));
        CHECK.due("count(6) after setLoom", 0, loom.count(6));
        CHECK.due("undo", 4, loom.undo());
        CHECK.due("count(6) after undo", 1, loom.count(6));
        DobbyLoom below = plainLoom(4, 7 * 3 + 6);
        below.weave(4);
        below.undo();
        CHECK.due("count(6) after undo of the broken pick", 0, below.count(6));
    }

    private static void bobbinOfTheColorAlone() {
        CHECK.begin("1 of the yarn on the bobbin of the color");
        for (int color = 0; color < 10; color++) {
            DobbyLoom loom = plainLoom(4, 300);
            loom.setBar(0, 2, color);
            loom.weave(1);
            for (int other = 0; other < 10; other++) {
                CHECK.due("yarn(" + other + ")", other == color ? 293 : 300, loom.yarn(other));
            }
            loom.takeOut(1);
            CHECK.due("yarn(" + color + ")", 300, loom.yarn(color));
        }
    }

    private static void rowsKeepBarAndPlan() {
        CHECK.begin("by the lift of this bar as it was then, and by the shafts of the ends as they were then");
        DobbyLoom loom = plainLoom(4, 300);
        loom.setFault(1, 1);
        loom.weave(1);
        loom.setBar(0, 1, 7);
        loom.setEnd(0, 1, 0);
        loom.setFault(1, 0);
        Check.load(loom, "-c3");
        for (int end = 0; end < 4; end++) {
            CHECK.due("plan at " + end, end % 2, loom.cell(0, end, 3));
            CHECK.due("above at " + end, 0, loom.cell(0, end, 0));
            CHECK.due("wrong at " + end, end % 2, loom.cell(0, end, 2));
        }
        CHECK.due("its color", 0, loom.row(0, 0));
        CHECK.due("its bar", 0, loom.row(0, 1));
        CHECK.due("its yarn", 4, loom.row(0, 2));
        CHECK.due("what it used comes back to its own color", 0, loom.takeOut(1));
        CHECK.due("yarn(0)", 300, loom.yarn(0));
        CHECK.due("yarn(3)", 300, loom.yarn(3));
    }

    private static void takenOutRowsAreOneToSixtyFour() {
        CHECK.begin("takeOut: rows: 1 to 64");
        int[] bad = {Integer.MIN_VALUE, -1, 0, 65, 66, Integer.MAX_VALUE};
        for (int rows : bad) {
            DobbyLoom loom = plainLoom(4, 9999);
            loom.weave(64);
            CHECK.due("takeOut(" + rows + ")", BAD, loom.takeOut(rows));
            CHECK.due("count(5)", 64, loom.count(5));
        }
        for (int rows = 1; rows <= 64; rows++) {
            DobbyLoom loom = plainLoom(4, 9999);
            loom.weave(64);
            CHECK.due("takeOut(" + rows + ")", 64 - rows, loom.takeOut(rows));
            CHECK.due("count(5)", 64 - rows, loom.count(5));
            CHECK.due("the row behind the last", BAD, loom.row(64 - rows, 0));
            CHECK.due("yarn(0)", 9999 - 7 * (64 - rows), loom.yarn(0));
        }
    }

    private static void takeOutNeedsSoManyRows() {
        CHECK.begin("ILLEGAL_STATE if the cloth has not so many rows, or there are no bars");
        CHECK.due("no bars, no rows", STATE, new DobbyLoom().takeOut(1));
        CHECK.due("no rows", STATE, plainLoom(4, 300).takeOut(1));
        for (int rows = 1; rows < 64; rows++) {
            DobbyLoom loom = plainLoom(4, 9999);
            loom.weave(rows);
            CHECK.due("takeOut of one more than " + rows, STATE, loom.takeOut(rows + 1));
            CHECK.due("takeOut(64)", STATE, loom.takeOut(64));
            CHECK.due("count(5)", rows, loom.count(5));
            CHECK.due("takeOut of all", 0, loom.takeOut(rows));
            CHECK.due("takeOut(1) of none", STATE, loom.takeOut(1));
        }
    }

    private static void takenOutYarnComesBack() {
        CHECK.begin("the yarn that it used comes back on the bobbin of its color");
        for (int yarn = 0; yarn <= 7; yarn++) {
            DobbyLoom loom = plainLoom(4, yarn);
            loom.weave(1);
            CHECK.due("takeOut(1)", 0, loom.takeOut(1));
            CHECK.due("yarn(0)", yarn, loom.yarn(0));
        }
        DobbyLoom loom = Check.loomWith("01c1;12c2;-c9");
        loom.weave(64);
        int rows = loom.count(5);
        CHECK.due("takeOut of all", 0, loom.takeOut(rows));
        for (int color = 0; color < 10; color++) {
            CHECK.due("yarn(" + color + ")", 300, loom.yarn(color));
        }
    }

    private static void takenOutYarnCanMakeMoreThanNineThousand() {
        CHECK.begin("(which can have more than 9999 then)");
        DobbyLoom loom = plainLoom(32, 9999);
        CHECK.due("weave(64)", 64, loom.weave(64));
        CHECK.due("yarn(0)", 9999 - 64 * 63, loom.yarn(0));
        CHECK.due("wind(0, 9999)", 9999 - 64 * 63, loom.wind(0, 9999));
        CHECK.due("takeOut(1)", 63, loom.takeOut(1));
        CHECK.due("yarn(0)", 9999 + 63, loom.yarn(0));
        CHECK.due("takeOut(63)", 0, loom.takeOut(63));
        CHECK.due("yarn(0)", 9999 + 64 * 63, loom.yarn(0));
        CHECK.due("picksLeft()", (9999 + 64 * 63) / 63, loom.picksLeft());
        CHECK.due("weave(64)", 64, loom.weave(64));
        CHECK.due("yarn(0)", 9999, loom.yarn(0));
        CHECK.due("takeOut(64)", 0, loom.takeOut(64));
        CHECK.due("so much can't be wound", BAD, loom.wind(0, 10000));
        CHECK.due("wind(0, 0)", 9999 + 64 * 63, loom.wind(0, 0));
        CHECK.due("yarn(0)", 0, loom.yarn(0));
        loom.undo();
        CHECK.due("yarn(0) after undo()", 9999 + 64 * 63, loom.yarn(0));
    }

    private static void takeOutEndsTheStanding() {
        CHECK.begin("broken picks that must be taken out");
        DobbyLoom loom = plainLoom(4, 7 * 63 + 6);
        CHECK.due("weave(64)", 64, loom.weave(64));
        CHECK.due("count(6)", 1, loom.count(6));
        CHECK.due("takeOut(1)", 63, loom.takeOut(1));
        CHECK.due("count(6)", 0, loom.count(6));
        CHECK.due("yarn(0)", 6, loom.yarn(0));
        loom.wind(0, 7);
        CHECK.due("weave(64)", 1, loom.weave(64));
        CHECK.due("count(6)", 0, loom.count(6));
        CHECK.due("weave(1)", FULL, loom.weave(1));
    }

    private static void cutOffRemovesAllRows() {
        CHECK.begin("cutOff: Removes the cloth from the loom; yarn and chain stay as they are");
        int[] numbers = {0, 1, 2, 63, 64};
        for (int rows : numbers) {
            DobbyLoom loom = plainLoom(4, 9999);
            loom.addBar(1, 1);
            loom.addBar(0, 2);
            if (rows > 0) {
                loom.weave(rows);
            }
            int yarn = loom.yarn(0);
            CHECK.due("cutOff()", rows, loom.cutOff());
            CHECK.due("count(5)", 0, loom.count(5));
            CHECK.due("count(2)", 3, loom.count(2));
            CHECK.due("count(3)", rows % 3, loom.count(3));
            CHECK.due("yarn(0)", yarn, loom.yarn(0));
            CHECK.due("row(0, 0)", BAD, loom.row(0, 0));
            CHECK.due("takeOut(1)", STATE, loom.takeOut(1));
            CHECK.due("cutOff() again", 0, loom.cutOff());
            CHECK.due("weave(64)", 64, loom.weave(64));
        }
        CHECK.due("without bars, too", 0, new DobbyLoom().cutOff());
        DobbyLoom odd = plainLoom(4, 7 + 1);
        odd.weave(1);
        odd.cutOff();
        odd.weave(1);
        CHECK.due("the next row has the even number 0", 0, odd.cell(0, 0, 0));
        CHECK.due("and is broken behind end 0", NONE, odd.cell(0, 1, 0));
    }

    private static void cutOffIsRefusedWhileTheLoomStands() {
        CHECK.begin("cutOff: ILLEGAL_STATE if the loom stands");
        for (int whole = 0; whole < 64; whole += 21) {
            DobbyLoom loom = plainLoom(4, 7 * whole + 6);
            CHECK.due("weave(64)", whole + 1, loom.weave(64));
            CHECK.due("cutOff()", STATE, loom.cutOff());
            CHECK.due("count(5)", whole + 1, loom.count(5));
            loom.takeOut(1);
            CHECK.due("cutOff() then", whole, loom.cutOff());
        }
    }
}
