/** Promises 26 and 27: what is to come, without a change. */
public final class ForecastTest {
    private static final Check CHECK = new Check();
    private static final int BAD = DobbyLoom.INVALID_ARGUMENT;
    private static final int STATE = DobbyLoom.ILLEGAL_STATE;

    public static void main(String[] arguments) {
        picksLeft();
        picksLeftAndWeaving();
        yarnFor();
        CHECK.close("ForecastTest");
    }

    private static void picksLeft() {
        CHECK.begin("26 picksLeft");
        CHECK.due("without bars", STATE, new DobbyLoom().picksLeft());
        DobbyLoom loom = Check.loomWith("01;02c1;-c2");
        loom.wind(0, 33);
        loom.wind(1, 29);
        loom.wind(2, 16);
        CHECK.due("color 1 is out first", 4, loom.picksLeft());
        loom.wind(1, 30);
        CHECK.due("color 1 is out first, later", 7, loom.picksLeft());
        loom.wind(1, 45);
        CHECK.due("color 2 is out first", 8, loom.picksLeft());
        loom.wind(2, 24);
        CHECK.due("color 0 is out first", 9, loom.picksLeft());
        loom.setDirection(1);
        CHECK.due("backward, color 0, then 2, 1, 0, ..", 9, loom.picksLeft());
        loom.turnTo(2);
        CHECK.due("backward from bar 2", 9, loom.picksLeft());
        loom.wind(0, 32);
        CHECK.due("backward from bar 2 with less", 8, loom.picksLeft());
        loom.setFault(3, 2);
        // Bars 2 and 0 need 11 and 12 then: color 2 lasts for 2 picks, color 0 for 2, color 1 for 3.
        CHECK.due("with a fault", 6, loom.picksLeft());
        CHECK.due("rows", 0, loom.count(5));
        CHECK.due("present bar", 2, loom.count(3));
        CHECK.due("yarn(0)", 32, loom.yarn(0));

        DobbyLoom much = Check.loomWith("-");
        much.wind(0, 8 * 499);
        CHECK.due("499", 499, much.picksLeft());
        much.wind(0, 8 * 500 - 1);
        CHECK.due("499", 499, much.picksLeft());
        much.wind(0, 8 * 500);
        CHECK.due("500", 500, much.picksLeft());
        much.wind(0, 9999);
        CHECK.due("more than 500", 500, much.picksLeft());
        much.weave(64);
        CHECK.due("a full cloth is no limit", 500, much.picksLeft());
        much.cutOff();
        much.wind(0, 7);
        CHECK.due("none", 0, much.picksLeft());
        much.weave(1);
        CHECK.due("while it stands", STATE, much.picksLeft());
    }

    private static void picksLeftAndWeaving() {
        CHECK.begin("26 picksLeft, woven");
        for (int yarn = 0; yarn < 120; yarn += 7) {
            DobbyLoom loom = Check.loomWith("01;02;-;13;2x(0;123)");
            loom.setFault(2, 1);
            loom.setFault(1, 2);
            loom.setDirection(yarn & 1);
            loom.turnTo(yarn % 8);
            loom.wind(0, yarn);
            int left = loom.picksLeft();
            CHECK.due("weave(64) with yarn " + yarn, left + 1, loom.weave(64));
            CHECK.due("the last one broke", 1, loom.count(6));
        }
    }

    private static void yarnFor() {
        CHECK.begin("27 yarnFor");
        CHECK.due("without bars", STATE, new DobbyLoom().yarnFor(0, 1));
        CHECK.due("without bars, wrong color", BAD, new DobbyLoom().yarnFor(10, 1));
        CHECK.due("without bars, wrong picks", BAD, new DobbyLoom().yarnFor(0, 65));
        DobbyLoom loom = Check.loomWith("01;02c1;-c2;-");
        loom.weave(1);
        int[] color0 = {0, 0, 8, 19, 19, 19, 27};
        int[] color1 = {15, 15, 15, 15, 30, 30, 30};
        int[] color2 = {0, 8, 8, 8, 8, 16, 16};
        for (int picks = 1; picks <= 7; picks++) {
            CHECK.due("yarnFor(0, " + picks + ")", color0[picks - 1], loom.yarnFor(0, picks));
            CHECK.due("yarnFor(1, " + picks + ")", color1[picks - 1], loom.yarnFor(1, picks));
            CHECK.due("yarnFor(2, " + picks + ")", color2[picks - 1], loom.yarnFor(2, picks));
            CHECK.due("yarnFor(9, " + picks + ")", 0, loom.yarnFor(9, picks));
        }
        CHECK.due("yarnFor(0, 64)", 16 * 19, loom.yarnFor(0, 64));
        loom.setDirection(1);
        CHECK.due("backward: bars 1 0", 11, loom.yarnFor(0, 2));
        CHECK.due("backward: bars 1 0 3", 19, loom.yarnFor(0, 3));
        CHECK.due("backward: bars 1 0 3 2", 8, loom.yarnFor(2, 4));
        loom.setFault(0, 1);
        CHECK.due("with a fault", 12, loom.yarnFor(1, 1));
        loom.wind(1, 0);
        loom.weave(1);
        CHECK.due("while it stands", STATE, loom.weave(1));
        CHECK.due("while it stands", 12, loom.yarnFor(0, 1));
        CHECK.due("yarnFor(10, 1)", BAD, loom.yarnFor(10, 1));
        CHECK.due("yarnFor(-1, 1)", BAD, loom.yarnFor(-1, 1));
        CHECK.due("yarnFor(0, 0)", BAD, loom.yarnFor(0, 0));
        CHECK.due("yarnFor(0, 65)", BAD, loom.yarnFor(0, 65));
        int[] far = {Integer.MIN_VALUE, -65536, 65536, Integer.MAX_VALUE};
        for (int bad : far) {
            CHECK.due("yarnFor(" + bad + ", 1)", BAD, loom.yarnFor(bad, 1));
            CHECK.due("yarnFor(0, " + bad + ")", BAD, loom.yarnFor(0, bad));
        }
        CHECK.due("rows", 2, loom.count(5));
        CHECK.due("present bar", 0, loom.count(3));
        CHECK.due("yarn(0)", 289, loom.yarn(0));
    }
}
