/** The boundary cases of promises 26 and 27: a test for each sentence that names one. */
public final class ForecastEdgeTest {
    private static final Check CHECK = new Check();
    private static final int BAD = DobbyLoom.INVALID_ARGUMENT;
    private static final int STATE = DobbyLoom.ILLEGAL_STATE;

    public static void main(String[] arguments) {
        picksLeftNeedsBarsAndALoomThatDoesNotStand();
        picksLeftIsAtMostFiveHundred();
        picksLeftCountsWholePicks();
        picksLeftKnowsNoLimitOfTheCloth();
        picksLeftPassesTheEndOfTheChain();
        yarnForNamesColorsAndPicks();
        yarnForNeedsBars();
        yarnForGoesOnWhileTheLoomStands();
        yarnForPassesTheEndOfTheChain();
        yarnForKnowsNoLimitOfYarnAndCloth();
        CHECK.close("ForecastEdgeTest");
    }

    private static DobbyLoom loomOf(int ends, int yarn) {
        DobbyLoom loom = new DobbyLoom();
        loom.setLoom(2, ends);
        loom.addBar(2, 0);
        loom.wind(0, yarn);
        return loom;
    }

    private static void picksLeftNeedsBarsAndALoomThatDoesNotStand() {
        CHECK.begin("picksLeft: ILLEGAL_STATE if there are no bars, or the loom stands");
        DobbyLoom loom = new DobbyLoom();
        CHECK.due("no bars", STATE, loom.picksLeft());
        loom.addBar(0, 0);
        CHECK.due("a bar", 37, loom.picksLeft());
        loom.wind(0, 7);
        loom.weave(1);
        CHECK.due("standing", STATE, loom.picksLeft());
        loom.wind(0, 9999);
        CHECK.due("standing, with yarn", STATE, loom.picksLeft());
        loom.takeOut(1);
        CHECK.due("taken out", 500, loom.picksLeft());
        loom.setLoom(4, 8);
        CHECK.due("no bars again", STATE, loom.picksLeft());
    }

    private static void picksLeftIsAtMostFiveHundred() {
        CHECK.begin("picksLeft: at most 500 (500 also if there are more)");
        for (int picks = 498; picks <= 502; picks++) {
            CHECK.due("yarn for " + picks, Math.min(picks, 500), loomOf(4, 7 * picks).picksLeft());
            CHECK.due("1 less", Math.min(picks - 1, 500), loomOf(4, 7 * picks - 1).picksLeft());
            CHECK.due("1 more", Math.min(picks, 500), loomOf(4, 7 * picks + 1).picksLeft());
        }
        CHECK.due("9999", 500, loomOf(4, 9999).picksLeft());
        CHECK.due("32 ends", 9999 / 63, loomOf(32, 9999).picksLeft());
        DobbyLoom twentyFour = new DobbyLoom();
        Check.load(twentyFour, "8x(-c1;-c2;-c3)");
        twentyFour.wind(1, 8 * 167);
        twentyFour.wind(2, 8 * 167);
        twentyFour.wind(3, 8 * 166);
        CHECK.due("167 + 167 + 166", 500, twentyFour.picksLeft());
        twentyFour.wind(2, 8 * 166);
        CHECK.due("167 + 166", 499, twentyFour.picksLeft());
    }

    private static void picksLeftCountsWholePicks() {
        CHECK.begin("picksLeft: how many picks can be made before one breaks");
        for (int yarn = 0; yarn <= 7 * 9; yarn++) {
            for (int row = 0; row <= 1; row++) {
                DobbyLoom loom = loomOf(4, 9999);
                if (row == 1) {
                    loom.weave(1);
                }
                loom.wind(0, yarn);
                CHECK.due("yarn " + yarn, yarn / 7, loom.picksLeft());
                CHECK.due("weave(64)", yarn / 7 + 1, loom.weave(64));
                CHECK.due("count(6)", 1, loom.count(6));
            }
        }
        DobbyLoom loom = loomOf(4, 20);
        loom.setFault(0, 2);
        CHECK.due("with a fault all are above", 5, loom.picksLeft());
        loom.setFault(0, 0);
        loom.setFault(1, 1);
        CHECK.due("with a fault all are below", 5, loom.picksLeft());
    }

    private static void picksLeftKnowsNoLimitOfTheCloth() {
        CHECK.begin("picksLeft: (as if the cloth had no limit)");
        DobbyLoom loom = loomOf(4, 7 * 70);
        loom.weave(63);
        CHECK.due("at 63 rows", 7, loom.picksLeft());
        loom.weave(1);
        CHECK.due("at 64 rows", 6, loom.picksLeft());
        loom.wind(0, 9999);
        CHECK.due("at 64 rows, with yarn", 500, loom.picksLeft());
        loom.wind(0, 0);
        CHECK.due("at 64 rows, without yarn", 0, loom.picksLeft());
    }

    private static void picksLeftPassesTheEndOfTheChain() {
        CHECK.begin("picksLeft: over the end of the chain, in both directions");
        for (int present = 0; present < 3; present++) {
            for (int backward = 0; backward <= 1; backward++) {
                for (int out = 0; out < 3; out++) {
                    DobbyLoom loom = Check.loomWith("-c0;-c1;-c2");
                    loom.turnTo(present);
                    loom.setDirection(backward);
                    loom.wind(out, 8);
                    int distance = backward == 1 ? (present - out + 3) % 3 : (out - present + 3) % 3;
                    CHECK.due("from " + present + " to " + out + ", " + backward, distance + 3, loom.picksLeft());
                    CHECK.due("weave(64)", distance + 4, loom.weave(64));
                }
            }
        }
    }

    private static void yarnForNamesColorsAndPicks() {
        CHECK.begin("yarnFor: INVALID_ARGUMENT if an argument is out of range");
        DobbyLoom loom = loomOf(4, 300);
        for (int color = -2; color <= 12; color++) {
            int due = color < 0 || color > 9 ? BAD : color == 0 ? 7 : 0;
            CHECK.due("yarnFor(" + color + ", 1)", due, loom.yarnFor(color, 1));
            CHECK.due("yarnFor(" + color + ", 0)", BAD, loom.yarnFor(color, 0));
            CHECK.due("yarnFor(" + color + ", 65)", BAD, loom.yarnFor(color, 65));
        }
        for (int picks = -2; picks <= 70; picks++) {
            int due = picks < 1 || picks > 64 ? BAD : 7 * picks;
            CHECK.due("yarnFor(0, " + picks + ")", due, loom.yarnFor(0, picks));
        }
        int[] far = {Integer.MIN_VALUE, Integer.MAX_VALUE};
        for (int no : far) {
            CHECK.due("yarnFor(" + no + ", 1)", BAD, loom.yarnFor(no, 1));
            CHECK.due("yarnFor(0, " + no + ")", BAD, loom.yarnFor(0, no));
        }
    }

    private static void yarnForNeedsBars() {
        CHECK.begin("yarnFor: ILLEGAL_STATE if there are no bars");
        DobbyLoom loom = new DobbyLoom();
        CHECK.due("yarnFor(0, 1)", STATE, loom.yarnFor(0, 1));
        CHECK.due("yarnFor(9, 64)", STATE, loom.yarnFor(9, 64));
        CHECK.due("a wrong color comes first", BAD, loom.yarnFor(10, 1));
        CHECK.due("a wrong color comes first", BAD, loom.yarnFor(-1, 64));
        CHECK.due("wrong picks come first", BAD, loom.yarnFor(0, 0));
        CHECK.due("wrong picks come first", BAD, loom.yarnFor(9, 65));
    }

    private static void yarnForGoesOnWhileTheLoomStands() {
        CHECK.begin("yarnFor: (also while the loom stands)");
        DobbyLoom loom = Check.loomWith("-c0;-c1;-c2");
        loom.wind(0, 0);
        loom.weave(1);
        CHECK.due("count(6)", 1, loom.count(6));
        CHECK.due("from the present bar on", 8, loom.yarnFor(1, 1));
        CHECK.due("the broken bar is not the next", 0, loom.yarnFor(0, 2));
        CHECK.due("but the third", 8, loom.yarnFor(0, 3));
        CHECK.due("yarnFor(0, 64)", 21 * 8, loom.yarnFor(0, 64));
        CHECK.due("yarnFor(1, 64)", 22 * 8, loom.yarnFor(1, 64));
    }

    private static void yarnForPassesTheEndOfTheChain() {
        CHECK.begin("yarnFor: over the end of the chain, in both directions");
        int[] numbers = {1, 2, 3, 10};
        for (int bars : numbers) {
            for (int present = 0; present < bars; present++) {
                for (int backward = 0; backward <= 1; backward++) {
                    DobbyLoom loom = new DobbyLoom();
                    loom.setLoom(2, 4);
                    for (int bar = 0; bar < bars; bar++) {
                        loom.addBar(bar % 2, bar);
                    }
                    loom.turnTo(present);
                    loom.setDirection(backward);
                    int[] due = new int[bars];
                    for (int pick = 0; pick < 25; pick++) {
                        int bar = (present + (backward == 1 ? 64 * bars - pick : pick)) % bars;
                        due[bar] += bar % 2 == 0 ? 4 : 7;
                        String where = ", " + (pick + 1) + ") of " + bars + " from " + present + ", " + backward;
                        CHECK.due("yarnFor(" + bar + where, due[bar], loom.yarnFor(bar, pick + 1));
                    }
                    CHECK.due("the present bar stays", present, loom.count(3));
                }
            }
        }
    }

    private static void yarnForKnowsNoLimitOfYarnAndCloth() {
        CHECK.begin("yarnFor: would need, if none broke");
        DobbyLoom loom = loomOf(32, 9999);
        CHECK.due("the greatest of all", 63 * 64, loom.yarnFor(0, 64));
        loom.weave(64);
        CHECK.due("with a full cloth", 63 * 64, loom.yarnFor(0, 64));
        loom.wind(0, 0);
        CHECK.due("without yarn", 63 * 64, loom.yarnFor(0, 64));
        loom.setFault(0, 2);
        CHECK.due("with a fault all are above", 32 * 64, loom.yarnFor(0, 64));
    }
}
