/** The boundary cases of Loom, Chain and Bobbins, and of promises 1 to 9: a test for each sentence that names one. */
public final class LoomEdgeTest {
    private static final Check CHECK = new Check();
    private static final int BAD = DobbyLoom.INVALID_ARGUMENT;
    private static final int FULL = DobbyLoom.CAPACITY_EXCEEDED;
    private static final int NONE = DobbyLoom.NONE;

    public static void main(String[] arguments) {
        shaftsAreTwoToEight();
        endsAreFourToThirtyTwo();
        endsAreOnShaftsInTurnAtFirst();
        everythingIsAsAtFirstInAnyLoom();
        endsShaftsAndColorsOfSetEnd();
        faultsAreZeroToTwo();
        stuckBelowIsNeverLifted();
        stuckAboveIsAlwaysLifted();
        setsOfShaftsAreBits();
        chainHasAtMostTwentyFourBars();
        presentBarIsZeroWhenTheChainIsMade();
        barsOfSetBar();
        directionIsZeroOrOne();
        turnToNamesABar();
        stepOnPassesTheEndOfTheChain();
        stepBackPassesTheEndOfTheChain();
        stepBackGoesInTheDirectionOfNow();
        stepBackGoesThroughTheChainOfNow();
        bobbinsHoldUpToNineThousand();
        returnsArePreviousValues();
        CHECK.close("LoomEdgeTest");
    }

    private static void shaftsAreTwoToEight() {
        CHECK.begin("The loom has S shafts, 2 to 8 (at first 4)");
        CHECK.due("count(0)", 4, new DobbyLoom().count(0));
        for (int shafts = -1; shafts <= 12; shafts++) {
            boolean allowed = shafts >= 2 && shafts <= 8;
            DobbyLoom loom = new DobbyLoom();
            CHECK.due("setLoom(" + shafts + ", 8)", allowed ? 0 : BAD, loom.setLoom(shafts, 8));
            CHECK.due("count(0)", allowed ? shafts : 4, loom.count(0));
            CHECK.due("count(8)", allowed ? 1 : 0, loom.count(8));
        }
    }

    private static void endsAreFourToThirtyTwo() {
        CHECK.begin("and W warp ends, 4 to 32 (at first 8)");
        CHECK.due("count(1)", 8, new DobbyLoom().count(1));
        for (int ends = -1; ends <= 70; ends++) {
            boolean allowed = ends >= 4 && ends <= 32;
            DobbyLoom loom = new DobbyLoom();
            CHECK.due("setLoom(4, " + ends + ")", allowed ? 0 : BAD, loom.setLoom(4, ends));
            int due = allowed ? ends : 8;
            CHECK.due("count(1)", due, loom.count(1));
            CHECK.due("the last end", (due - 1) % 4, loom.end(due - 1, 0));
            CHECK.due("the end behind it", BAD, loom.end(due, 0));
            CHECK.due("the end before the first", BAD, loom.end(-1, 0));
        }
    }

    private static void endsAreOnShaftsInTurnAtFirst() {
        CHECK.begin("at first, end e is on shaft e modulo S");
        for (int shafts = 2; shafts <= 8; shafts++) {
            DobbyLoom loom = new DobbyLoom();
            loom.setLoom(shafts, 32);
            for (int end = 0; end < 32; end++) {
                CHECK.due("end(" + end + ", 0) of " + shafts, end % shafts, loom.end(end, 0));
                CHECK.due("end(" + end + ", 1) of " + shafts, 0, loom.end(end, 1));
            }
        }
    }

    private static void everythingIsAsAtFirstInAnyLoom() {
        CHECK.begin("ends, faults, chain, direction, bobbins and cloth are as at first");
        int[][] sizes = {{2, 4}, {2, 32}, {8, 4}, {8, 32}};
        for (int[] from : sizes) {
            for (int[] to : sizes) {
                DobbyLoom loom = new DobbyLoom();
                loom.setLoom(from[0], from[1]);
                loom.setEnd(from[1] - 1, 0, 9);
                loom.setEnd(0, from[0] - 1, 9);
                loom.setFault(0, 2);
                loom.setFault(from[0] - 1, 1);
                loom.addBar((1 << from[0]) - 1, 9);
                loom.addBar(0, 9);
                loom.setDirection(1);
                loom.turnTo(1);
                loom.wind(0, 9999);
                loom.weave(64);
                loom.append('0');
                int rows = loom.count(5);
                CHECK.due("setLoom(" + to[0] + ", " + to[1] + ")", rows, loom.setLoom(to[0], to[1]));
                DobbyLoom fresh = new DobbyLoom();
                fresh.setLoom(to[0], to[1]);
                expectAlike(loom, fresh);
                // Faults show only when there are bars.
                int all = (1 << to[0]) - 1;
                for (int lift = 0; lift <= all; lift += all) {
                    loom.addBar(lift, 0);
                    fresh.addBar(lift, 0);
                    CHECK.due("bar(" + lift + ", 2)", lift, loom.bar(lift == 0 ? 0 : 1, 2));
                }
                expectAlike(loom, fresh);
            }
        }
    }

    private static void expectAlike(DobbyLoom loom, DobbyLoom fresh) {
        for (int what = 0; what < 8; what++) {
            CHECK.due("count(" + what + ")", fresh.count(what), loom.count(what));
        }
        for (int end = 0; end <= fresh.count(1); end++) {
            for (int what = 0; what < 5; what++) {
                CHECK.due("end(" + end + ", " + what + ")", fresh.end(end, what), loom.end(end, what));
            }
        }
        for (int color = 0; color < 10; color++) {
            CHECK.due("yarn(" + color + ")", 300, loom.yarn(color));
        }
        CHECK.due("picksLeft()", fresh.picksLeft(), loom.picksLeft());
        CHECK.due("the text stays", 1, loom.count(9));
    }

    private static void endsShaftsAndColorsOfSetEnd() {
        CHECK.begin("setEnd: an end, a shaft, 0 to 9");
        for (int shafts = 2; shafts <= 8; shafts++) {
            for (int ends = 4; ends <= 32; ends += 14) {
                DobbyLoom loom = new DobbyLoom();
                loom.setLoom(shafts, ends);
                int last = 10 * ((ends - 1) % shafts);
                CHECK.due("the first of all", 0, loom.setEnd(0, 0, 0));
                CHECK.due("the last of all", last, loom.setEnd(ends - 1, shafts - 1, 9));
                CHECK.due("the last of all again", 10 * (shafts - 1) + 9, loom.setEnd(ends - 1, shafts - 1, 9));
                CHECK.due("an end too many", BAD, loom.setEnd(ends, 0, 0));
                CHECK.due("an end too few", BAD, loom.setEnd(-1, 0, 0));
                CHECK.due("a shaft too many", BAD, loom.setEnd(0, shafts, 0));
                CHECK.due("a shaft too few", BAD, loom.setEnd(0, -1, 0));
                CHECK.due("a color too many", BAD, loom.setEnd(0, 0, 10));
                CHECK.due("a color too few", BAD, loom.setEnd(0, 0, -1));
                CHECK.due("end 0 is as it was", 0, loom.setEnd(0, 0, 0));
            }
        }
    }

    private static void faultsAreZeroToTwo() {
        CHECK.begin("Each shaft has a fault: 0 none (at first), 1 stuck below, or 2 stuck above");
        for (int shafts = 2; shafts <= 8; shafts++) {
            DobbyLoom loom = new DobbyLoom();
            loom.setLoom(shafts, 4);
            for (int shaft = 0; shaft < shafts; shaft++) {
                CHECK.due("at first", 0, loom.setFault(shaft, 2));
                CHECK.due("after 2", 2, loom.setFault(shaft, 1));
                CHECK.due("3", BAD, loom.setFault(shaft, 3));
                CHECK.due("-1", BAD, loom.setFault(shaft, -1));
                CHECK.due("after 1", 1, loom.setFault(shaft, 0));
                CHECK.due("after 0", 0, loom.setFault(shaft, 0));
            }
            CHECK.due("a shaft too many", BAD, loom.setFault(shafts, 0));
            CHECK.due("a shaft too few", BAD, loom.setFault(-1, 0));
        }
    }

    private static void stuckBelowIsNeverLifted() {
        CHECK.begin("1 stuck below (it is never lifted)");
        DobbyLoom loom = faulty(1);
        CHECK.due("lift of all", 0b01111110, loom.bar(0, 2));
        CHECK.due("lift of none", 0, loom.bar(1, 2));
        loom.weave(2);
        for (int end = 0; end < 8; end++) {
            boolean stuck = end == 0 || end == 7;
            CHECK.due("lift of all, end " + end, stuck ? 0 : 1, loom.cell(0, end, 0));
            CHECK.due("lift of all, end " + end + " is wrong", stuck ? 1 : 0, loom.cell(0, end, 2));
            CHECK.due("lift of none, end " + end, 0, loom.cell(1, end, 0));
            CHECK.due("lift of none, end " + end + " is wrong", 0, loom.cell(1, end, 2));
        }
    }

    private static void stuckAboveIsAlwaysLifted() {
        CHECK.begin("2 stuck above (it is always lifted)");
        DobbyLoom loom = faulty(2);
        CHECK.due("lift of all", 255, loom.bar(0, 2));
        CHECK.due("lift of none", 0b10000001, loom.bar(1, 2));
        loom.weave(2);
        for (int end = 0; end < 8; end++) {
            int stuck = end == 0 || end == 7 ? 1 : 0;
            CHECK.due("lift of all, end " + end, 1, loom.cell(0, end, 0));
            CHECK.due("lift of all, end " + end + " is wrong", 0, loom.cell(0, end, 2));
            CHECK.due("lift of none, end " + end, stuck, loom.cell(1, end, 0));
            CHECK.due("lift of none, end " + end + " is wrong", stuck, loom.cell(1, end, 2));
        }
    }

    /** Eight shafts, the first and the last one of them with this fault; a bar for all, and one for none. */
    private static DobbyLoom faulty(int fault) {
        DobbyLoom loom = new DobbyLoom();
        loom.setLoom(8, 8);
        loom.setFault(0, fault);
        loom.setFault(7, fault);
        loom.addBar(255, 0);
        loom.addBar(0, 0);
        return loom;
    }

    private static void setsOfShaftsAreBits() {
        CHECK.begin("Sets of shafts are told as bits (bit s for shaft s)");
        for (int shafts = 2; shafts <= 8; shafts++) {
            int all = (1 << shafts) - 1;
            DobbyLoom loom = new DobbyLoom();
            loom.setLoom(shafts, 8);
            CHECK.due("addBar of none", 0, loom.addBar(0, 0));
            CHECK.due("addBar of all", 1, loom.addBar(all, 9));
            CHECK.due("addBar of one too many", BAD, loom.addBar(all + 1, 0));
            CHECK.due("addBar(-1, 0)", BAD, loom.addBar(-1, 0));
            CHECK.due("setBar of all", 0, loom.setBar(0, all, 9));
            CHECK.due("setBar of one too many", BAD, loom.setBar(0, all + 1, 0));
            CHECK.due("setBar(0, -1, 0)", BAD, loom.setBar(0, -1, 0));
            CHECK.due("setBar of none", 10 * all + 9, loom.setBar(0, 0, 0));
            for (int shaft = 0; shaft < shafts; shaft++) {
                loom.setBar(0, 1 << shaft, 0);
                loom.setBar(1, 1 << shaft, 0);
                loom.weave(1);
                for (int end = 0; end < 8; end++) {
                    int due = end % shafts == shaft ? 1 : 0;
                    CHECK.due("shaft " + shaft + ", end " + end, due, loom.cell(shaft, end, 0));
                }
            }
        }
    }

    private static void chainHasAtMostTwentyFourBars() {
        CHECK.begin("The chain consists of at most 24 bars, at first none, numbered from 0");
        DobbyLoom loom = new DobbyLoom();
        CHECK.due("count(2)", 0, loom.count(2));
        CHECK.due("bar(0, 0)", BAD, loom.bar(0, 0));
        for (int bar = 0; bar < 24; bar++) {
            CHECK.due("addBar", bar, loom.addBar(bar % 16, bar % 10));
            CHECK.due("bar(" + bar + ", 0)", bar % 16, loom.bar(bar, 0));
            CHECK.due("bar(" + (bar + 1) + ", 0)", BAD, loom.bar(bar + 1, 0));
        }
        CHECK.due("the 25th one", FULL, loom.addBar(0, 0));
        CHECK.due("the 25th one with a wrong lift", BAD, loom.addBar(-1, 0));
        CHECK.due("the 25th one with a wrong color", BAD, loom.addBar(0, -1));
        CHECK.due("count(2)", 24, loom.count(2));
        CHECK.due("bar(23, 0)", 7, loom.bar(23, 0));
        CHECK.due("bar(23, 1)", 3, loom.bar(23, 1));
        loom.undo();
        CHECK.due("after undo() there is room again", 23, loom.addBar(1, 1));
        CHECK.due("but for one", FULL, loom.addBar(1, 1));
    }

    private static void presentBarIsZeroWhenTheChainIsMade() {
        CHECK.begin("one of them is the present one (bar 0 when the chain is made)");
        DobbyLoom loom = new DobbyLoom();
        CHECK.due("without bars", NONE, loom.count(3));
        loom.setDirection(1);
        loom.addBar(1, 0);
        CHECK.due("by addBar", 0, loom.count(3));
        loom.addBar(2, 0);
        CHECK.due("by a second one", 0, loom.count(3));
        loom.turnTo(1);
        CHECK.due("load", 3, Check.load(loom, "0;1;2"));
        CHECK.due("by load", 0, loom.count(3));
        loom.turnTo(2);
        loom.setLoom(4, 8);
        CHECK.due("after setLoom", NONE, loom.count(3));
        loom.addBar(1, 0);
        CHECK.due("by addBar after setLoom", 0, loom.count(3));
    }

    private static void barsOfSetBar() {
        CHECK.begin("setBar: a bar, a set of shafts, 0 to 9");
        DobbyLoom loom = new DobbyLoom();
        CHECK.due("without bars", BAD, loom.setBar(0, 0, 0));
        for (int bars = 1; bars <= 24; bars++) {
            loom.addBar(15, 9);
            CHECK.due("the first bar", bars == 1 ? 159 : 0, loom.setBar(0, 0, 0));
            CHECK.due("the last bar", bars == 1 ? 0 : 159, loom.setBar(bars - 1, 15, 9));
            CHECK.due("the bar behind it", BAD, loom.setBar(bars, 0, 0));
            CHECK.due("the bar before the first", BAD, loom.setBar(-1, 0, 0));
            CHECK.due("a color too many", BAD, loom.setBar(0, 0, 10));
            CHECK.due("a color too few", BAD, loom.setBar(0, 0, -1));
            if (bars == 1) {
                loom.setBar(0, 0, 0);
            }
        }
    }

    private static void directionIsZeroOrOne() {
        CHECK.begin("setDirection: 0 forward, 1 backward");
        DobbyLoom loom = new DobbyLoom();
        CHECK.due("count(4)", 0, loom.count(4));
        CHECK.due("setDirection(0)", 0, loom.setDirection(0));
        CHECK.due("setDirection(1)", 0, loom.setDirection(1));
        CHECK.due("setDirection(2)", BAD, loom.setDirection(2));
        CHECK.due("setDirection(-1)", BAD, loom.setDirection(-1));
        CHECK.due("count(4)", 1, loom.count(4));
        CHECK.due("setDirection(0)", 1, loom.setDirection(0));
    }

    private static void turnToNamesABar() {
        CHECK.begin("turnTo: INVALID_ARGUMENT if there is no such bar");
        DobbyLoom loom = new DobbyLoom();
        CHECK.due("turnTo(0) without bars", BAD, loom.turnTo(0));
        for (int bars = 1; bars <= 24; bars++) {
            loom.addBar(0, 0);
            CHECK.due("the bar behind the last", BAD, loom.turnTo(bars));
            CHECK.due("the bar before the first", BAD, loom.turnTo(-1));
            CHECK.due("the last bar", bars == 1 ? 0 : bars - 2, loom.turnTo(bars - 1));
            CHECK.due("the first bar", bars - 1, loom.turnTo(0));
            loom.turnTo(bars - 1);
        }
    }

    private static DobbyLoom loomOfBars(int bars, int backward, int present) {
        DobbyLoom loom = new DobbyLoom();
        loom.setLoom(2, 4);
        for (int bar = 0; bar < bars; bar++) {
            loom.addBar(bar % 4, bar % 10);
        }
        loom.setDirection(backward);
        loom.turnTo(present);
        for (int color = 0; color < 10; color++) {
            loom.wind(color, 9999);
        }
        return loom;
    }

    private static void stepOnPassesTheEndOfTheChain() {
        CHECK.begin("the last bar is followed by the first one; backward, the bar before is the next one");
        int[] numbers = {1, 2, 3, 23, 24};
        for (int bars : numbers) {
            for (int present = 0; present < bars; present++) {
                DobbyLoom forward = loomOfBars(bars, 0, present);
                forward.weave(1);
                CHECK.due("on from " + present + " of " + bars, present == bars - 1 ? 0 : present + 1, forward.count(3));
                CHECK.due("it was made by", present, forward.row(0, 1));
                DobbyLoom backward = loomOfBars(bars, 1, present);
                backward.weave(1);
                CHECK.due("backward from " + present + " of " + bars, present == 0 ? bars - 1 : present - 1,
                    backward.count(3));
                CHECK.due("it was made by", present, backward.row(0, 1));
                expectManySteps(bars, present, forward, backward);
            }
        }
    }

    private static void expectManySteps(int bars, int present, DobbyLoom forward, DobbyLoom backward) {
        CHECK.due("weave(63)", 63, forward.weave(63));
        CHECK.due("weave(63)", 63, backward.weave(63));
        for (int row = 0; row < 64; row++) {
            CHECK.due("forward, row " + row, (present + row) % bars, forward.row(row, 1));
            CHECK.due("backward, row " + row, (present + 64 * bars - row) % bars, backward.row(row, 1));
        }
        CHECK.due("forward after 64", (present + 64) % bars, forward.count(3));
        CHECK.due("backward after 64", (present + 64 * bars - 64) % bars, backward.count(3));
    }

    private static void stepBackPassesTheEndOfTheChain() {
        CHECK.begin("to step back is the opposite of that");
        int[] numbers = {1, 2, 3, 24};
        for (int bars : numbers) {
            for (int backward = 0; backward <= 1; backward++) {
                DobbyLoom loom = loomOfBars(bars, backward, 0);
                loom.weave(64);
                for (int row = 63; row >= 0; row--) {
                    int due = loom.row(row, 1);
                    CHECK.due("takeOut(1)", row, loom.takeOut(1));
                    CHECK.due("back at the bar of row " + row + " of " + bars, due, loom.count(3));
                }
                loom.weave(64);
                CHECK.due("takeOut(64)", 0, loom.takeOut(64));
                CHECK.due("back at the first", 0, loom.count(3));
            }
        }
    }

    private static void stepBackGoesInTheDirectionOfNow() {
        CHECK.begin("the chain steps back (in the direction in which it runs now)");
        DobbyLoom loom = loomOfBars(3, 0, 0);
        loom.weave(3);
        loom.setDirection(1);
        loom.takeOut(1);
        CHECK.due("woven forward, taken out backward", 1, loom.count(3));
        loom.takeOut(2);
        CHECK.due("over the end", 0, loom.count(3));
        loom.weave(3);
        loom.setDirection(0);
        loom.takeOut(1);
        CHECK.due("woven backward, taken out forward, over the end", 2, loom.count(3));
        loom.takeOut(2);
        CHECK.due("and on", 0, loom.count(3));
    }

    private static void stepBackGoesThroughTheChainOfNow() {
        CHECK.begin("step back through a chain that is shorter or longer than that of the row");
        DobbyLoom loom = Check.loomWith("0;1;2;3");
        loom.weave(4);
        CHECK.due("row(3, 1)", 3, loom.row(3, 1));
        CHECK.due("load of two bars", 2, Check.load(loom, "3c4;2c4"));
        CHECK.due("the row keeps its number", 3, loom.row(3, 1));
        loom.takeOut(1);
        CHECK.due("back over the end of two", 1, loom.count(3));
        loom.takeOut(1);
        CHECK.due("back to 0", 0, loom.count(3));
        loom.addBar(1, 1);
        loom.takeOut(1);
        CHECK.due("back over the end of three", 2, loom.count(3));
        CHECK.due("yarn(4) has nothing of it", 300, loom.yarn(4));
    }

    private static void bobbinsHoldUpToNineThousand() {
        CHECK.begin("a bobbin with a length of yarn, 0 to 9999 (at first 300)");
        DobbyLoom loom = new DobbyLoom();
        for (int color = 0; color < 10; color++) {
            CHECK.due("yarn(" + color + ")", 300, loom.yarn(color));
            CHECK.due("wind(" + color + ", 0)", 300, loom.wind(color, 0));
            CHECK.due("wind(" + color + ", 9999)", 0, loom.wind(color, 9999));
            CHECK.due("wind(" + color + ", 10000)", BAD, loom.wind(color, 10000));
            CHECK.due("wind(" + color + ", -1)", BAD, loom.wind(color, -1));
            CHECK.due("yarn(" + color + ")", 9999, loom.yarn(color));
        }
        CHECK.due("wind(10, 1)", BAD, loom.wind(10, 1));
        CHECK.due("wind(-1, 1)", BAD, loom.wind(-1, 1));
        CHECK.due("yarn(10)", BAD, loom.yarn(10));
        CHECK.due("yarn(-1)", BAD, loom.yarn(-1));
    }

    private static void returnsArePreviousValues() {
        CHECK.begin("10 * the previous shaft + the previous color, 10 * the previous lift + the previous color");
        DobbyLoom loom = new DobbyLoom();
        loom.setLoom(8, 32);
        CHECK.due("shaft 7, color 0", 70, loom.setEnd(31, 7, 9));
        CHECK.due("shaft 7, color 9", 79, loom.setEnd(31, 0, 0));
        CHECK.due("shaft 0, color 0", 0, loom.setEnd(31, 0, 0));
        loom.addBar(255, 9);
        CHECK.due("lift 255, color 9", 2559, loom.setBar(0, 255, 0));
        CHECK.due("lift 255, color 0", 2550, loom.setBar(0, 0, 9));
        CHECK.due("lift 0, color 9", 9, loom.setBar(0, 0, 0));
        CHECK.due("lift 0, color 0", 0, loom.setBar(0, 0, 0));
    }
}
