/** Promises 17 to 25: looking at the loom and the cloth. */
public final class LookTest {
    private static final Check CHECK = new Check();
    private static final int BAD = DobbyLoom.INVALID_ARGUMENT;
    private static final int NONE = DobbyLoom.NONE;
    private static final int[] FAR = {Integer.MIN_VALUE, -65536, -1, 65536, Integer.MAX_VALUE};

    public static void main(String[] arguments) {
        count();
        end();
        bar();
        yarn();
        row();
        cell();
        floats();
        floatsOfBrokenRows();
        repeat();
        differentRows();
        CHECK.close("LookTest");
    }

    /**
     * Ends 0 to 7 on shafts 0 1 2 3 0 1 2 3; rows by "01", "02c1", "-c2" and "01", the last one, an odd one,
     * broken with 5 of yarn: ends 7 6 (below) use 2, end 5 (above) uses 2, end 4 uses 1, end 3 has no weft.
     */
    private static DobbyLoom brokenCloth() {
        DobbyLoom loom = Check.loomWith("01;02c1;-c2");
        loom.weave(3);
        loom.wind(0, 5);
        loom.weave(1);
        return loom;
    }

    private static void count() {
        CHECK.begin("17 count");
        DobbyLoom loom = brokenCloth();
        loom.append('0');
        loom.setDirection(1);
        int[] due = {4, 8, 3, 1, 1, 4, 1, 4, 5, 1};
        for (int what = 0; what < 10; what++) {
            CHECK.due("count(" + what + ")", due[what], loom.count(what));
        }
        CHECK.due("count(10)", BAD, loom.count(10));
        for (int far : FAR) {
            CHECK.due("count(" + far + ")", BAD, loom.count(far));
        }
        loom.takeOut(1);
        CHECK.due("count(6)", 0, loom.count(6));
        CHECK.due("count(7)", 0, loom.count(7));
        CHECK.due("a row that was taken out is not above", 1, loom.end(5, 2));
        CHECK.due("nor is it wrong", 0, loom.end(0, 3));
        loom.setFault(0, 1);
        loom.setFault(3, 2);
        loom.turnTo(0);
        loom.wind(0, 99);
        loom.weave(1);
        CHECK.due("ends on two faulty shafts are wrong", 4, loom.count(7));
        loom.turnTo(0);
        loom.weave(1);
        CHECK.due("in two rows", 8, loom.count(7));
        CHECK.due("end(0, 3)", 2, loom.end(0, 3));
        CHECK.due("end(1, 3)", 0, loom.end(1, 3));
        CHECK.due("end(3, 3)", 2, loom.end(3, 3));
        loom.turnTo(2);
        loom.weave(1);
        CHECK.due("a bar that lifts nothing, with a shaft stuck above", 10, loom.count(7));
        CHECK.due("end(0, 3)", 2, loom.end(0, 3));
        CHECK.due("end(3, 3)", 3, loom.end(3, 3));
        loom.takeOut(6);
        loom.turnTo(2);
        loom.weave(1);
        CHECK.due("a wrong row 0", 2, loom.count(7));
    }

    private static void end() {
        CHECK.begin("18 end");
        DobbyLoom loom = brokenCloth();
        loom.setEnd(6, 1, 7);
        int[][] due = {
            {0, 0, 2, 1, 2},
            {1, 0, 1, 1, 2},
            {2, 0, 1, 1, 1},
            {3, 0, 0, 1, 3},
            {0, 0, 3, 0, 2},
            {1, 0, 2, 0, 2},
            {1, 7, 1, 0, 2},
            {3, 0, 0, 0, 4},
        };
        for (int end = 0; end < 8; end++) {
            for (int what = 0; what < 5; what++) {
                CHECK.due("end(" + end + ", " + what + ")", due[end][what], loom.end(end, what));
            }
        }
        CHECK.due("end(8, 0)", BAD, loom.end(8, 0));
        CHECK.due("end(0, 5)", BAD, loom.end(0, 5));
        for (int far : FAR) {
            CHECK.due("end(" + far + ", 0)", BAD, loom.end(far, 0));
            CHECK.due("end(0, " + far + ")", BAD, loom.end(0, far));
        }
        DobbyLoom empty = new DobbyLoom();
        for (int what = 2; what < 5; what++) {
            CHECK.due("end(0, " + what + ") without rows", 0, empty.end(0, what));
        }
        Check.load(empty, "0");
        empty.wind(0, 0);
        empty.weave(1);
        CHECK.due("no float without weft", 0, empty.end(0, 4));
        CHECK.due("wrong without weft", 1, empty.end(1, 3));
    }

    private static void bar() {
        CHECK.begin("19 bar");
        DobbyLoom loom = Check.loomWith("01;02c1;-c2;0123");
        loom.setEnd(7, 0, 0);
        int[][] due = {{3, 0, 3, 12}, {5, 1, 5, 14}, {0, 2, 0, 8}, {15, 0, 15, 8}};
        for (int bar = 0; bar < 4; bar++) {
            for (int what = 0; what < 4; what++) {
                CHECK.due("bar(" + bar + ", " + what + ")", due[bar][what], loom.bar(bar, what));
            }
        }
        loom.setFault(0, 1);
        loom.setFault(3, 2);
        CHECK.due("bar(0, 0)", 3, loom.bar(0, 0));
        CHECK.due("bar(0, 2)", 10, loom.bar(0, 2));
        // Ends are above at 1, 3 and 5.
        CHECK.due("bar(0, 3)", 14, loom.bar(0, 3));
        CHECK.due("bar(3, 2)", 14, loom.bar(3, 2));
        // Ends are below at 0, 4 and 7.
        CHECK.due("bar(3, 3)", 12, loom.bar(3, 3));
        loom.wind(0, 0);
        loom.weave(1);
        CHECK.due("the yarn that is there does not matter", 14, loom.bar(0, 3));
        CHECK.due("bar(4, 0)", BAD, loom.bar(4, 0));
        CHECK.due("bar(0, 4)", BAD, loom.bar(0, 4));
        for (int far : FAR) {
            CHECK.due("bar(" + far + ", 0)", BAD, loom.bar(far, 0));
            CHECK.due("bar(0, " + far + ")", BAD, loom.bar(0, far));
        }
        CHECK.due("bar(0, 0) without bars", BAD, new DobbyLoom().bar(0, 0));
        loom.setLoom(8, 32);
        loom.addBar(0x55, 0);
        CHECK.due("all ends change", 63, loom.bar(0, 3));
        loom.addBar(0x80, 0);
        CHECK.due("the last end is above", 32 + 7, loom.bar(1, 3));
    }

    private static void yarn() {
        CHECK.begin("20 yarn");
        DobbyLoom loom = brokenCloth();
        int[] due = {0, 285, 292, 300, 300, 300, 300, 300, 300, 300};
        for (int color = 0; color < 10; color++) {
            CHECK.due("yarn(" + color + ")", due[color], loom.yarn(color));
        }
        CHECK.due("yarn(10)", BAD, loom.yarn(10));
        for (int far : FAR) {
            CHECK.due("yarn(" + far + ")", BAD, loom.yarn(far));
        }
    }

    private static void row() {
        CHECK.begin("21 row");
        DobbyLoom loom = brokenCloth();
        int[][] due = {
            {0, 0, 11, 4, 0, 0, 2},
            {1, 1, 15, 4, 0, 0, 1},
            {2, 2, 8, 0, 0, 0, 8},
            {0, 0, 5, 2, 4, 4, 2},
        };
        for (int row = 0; row < 4; row++) {
            for (int what = 0; what < 7; what++) {
                CHECK.due("row(" + row + ", " + what + ")", due[row][what], loom.row(row, what));
            }
        }
        CHECK.due("row(4, 0)", BAD, loom.row(4, 0));
        CHECK.due("row(0, 7)", BAD, loom.row(0, 7));
        for (int far : FAR) {
            CHECK.due("row(" + far + ", 0)", BAD, loom.row(far, 0));
            CHECK.due("row(0, " + far + ")", BAD, loom.row(0, far));
        }
        CHECK.due("row(0, 0) without rows", BAD, new DobbyLoom().row(0, 0));
        loom.takeOut(1);
        CHECK.due("row(3, 0)", BAD, loom.row(3, 0));
        loom.turnTo(2);
        loom.wind(2, 0);
        loom.weave(1);
        int[] bare = {2, 2, 0, 0, 8, 8, 0};
        for (int what = 0; what < 7; what++) {
            CHECK.due("row(3, " + what + ") without any weft", bare[what], loom.row(3, what));
        }
    }

    private static void cell() {
        CHECK.begin("22 cell");
        DobbyLoom loom = brokenCloth();
        loom.setEnd(5, 2, 8);
        loom.setEnd(7, 0, 3);
        int[][] lastRow = {
            {NONE, NONE, NONE, NONE, 1, 1, 0, 0},
            {NONE, NONE, NONE, NONE, 0, 8, 0, 0},
            {1, 1, 1, 1, 0, 0, 0, 0},
            {1, 1, 0, 0, 1, 1, 0, 0},
        };
        int[][] secondRow = {
            {1, 0, 1, 0, 1, 0, 1, 0},
            {0, 1, 0, 1, 0, 1, 0, 1},
            {0, 0, 0, 0, 0, 0, 0, 0},
            {1, 0, 1, 0, 1, 0, 1, 0},
        };
        for (int what = 0; what < 4; what++) {
            for (int end = 0; end < 8; end++) {
                CHECK.due("cell(3, " + end + ", " + what + ")", lastRow[what][end], loom.cell(3, end, what));
                CHECK.due("cell(1, " + end + ", " + what + ")", secondRow[what][end], loom.cell(1, end, what));
            }
        }
        CHECK.due("cell(4, 0, 0)", BAD, loom.cell(4, 0, 0));
        CHECK.due("cell(0, 8, 0)", BAD, loom.cell(0, 8, 0));
        CHECK.due("cell(0, 0, 4)", BAD, loom.cell(0, 0, 4));
        CHECK.due("cell(3, 0, 4) without weft", BAD, loom.cell(3, 0, 4));
        for (int far : FAR) {
            CHECK.due("cell(" + far + ", 0, 0)", BAD, loom.cell(far, 0, 0));
            CHECK.due("cell(0, " + far + ", 0)", BAD, loom.cell(0, far, 0));
            CHECK.due("cell(0, 0, " + far + ")", BAD, loom.cell(0, 0, far));
        }
    }

    private static void floats() {
        CHECK.begin("23 floats");
        DobbyLoom loom = new DobbyLoom();
        CHECK.due("floats(0, 1) without rows", 0, loom.floats(0, 1));
        CHECK.due("floats(1, 1) without rows", 0, loom.floats(1, 1));
        loom.setLoom(2, 4);
        Check.load(loom, "0;0;-;01");
        loom.weave(4);
        // Ends 0 and 2: above above below above; ends 1 and 3: below below below above.
        int[] warp = {10, 4, 2, 0};
        int[] weft = {10, 2, 2, 2};
        for (int length = 1; length <= 4; length++) {
            CHECK.due("floats(0, " + length + ")", warp[length - 1], loom.floats(0, length));
            CHECK.due("floats(1, " + length + ")", weft[length - 1], loom.floats(1, length));
        }
        CHECK.due("floats(0, 64)", 0, loom.floats(0, 64));
        CHECK.due("floats(0, 65)", BAD, loom.floats(0, 65));
        CHECK.due("floats(0, 0)", BAD, loom.floats(0, 0));
        CHECK.due("floats(2, 1)", BAD, loom.floats(2, 1));
        for (int far : FAR) {
            CHECK.due("floats(" + far + ", 1)", BAD, loom.floats(far, 1));
            CHECK.due("floats(0, " + far + ")", BAD, loom.floats(0, far));
        }
        loom.setLoom(8, 32);
        loom.addBar(0, 0);
        loom.wind(0, 9999);
        loom.weave(64);
        CHECK.due("floats(0, 64)", 32, loom.floats(0, 64));
        CHECK.due("floats(1, 32)", 64, loom.floats(1, 32));
        CHECK.due("floats(1, 33)", 0, loom.floats(1, 33));
        CHECK.due("end(31, 4)", 64, loom.end(31, 4));
    }

    private static void floatsOfBrokenRows() {
        CHECK.begin("23 floats, broken rows");
        DobbyLoom loom = brokenCloth();
        // Rows: 11001100, 10101010, 00000000, ....1100 with no weft at the first four ends.
        int[] warp = {18, 7, 2, 1, 0};
        int[] weft = {15, 7, 1, 1, 1};
        for (int length = 1; length <= 5; length++) {
            CHECK.due("floats(0, " + length + ")", warp[length - 1], loom.floats(0, length));
            CHECK.due("floats(1, " + length + ")", weft[length - 1], loom.floats(1, length));
        }
    }

    private static DobbyLoom woven(String chain, int picks) {
        DobbyLoom loom = Check.loomWith(chain);
        loom.weave(picks);
        return loom;
    }

    private static void repeat() {
        CHECK.begin("24 repeat");
        CHECK.due("no rows", NONE, new DobbyLoom().repeat());
        CHECK.due("one row", 1, woven("0;1", 1).repeat());
        CHECK.due("two rows", 2, woven("0;1", 2).repeat());
        CHECK.due("three rows", 2, woven("0;1", 3).repeat());
        CHECK.due("rows that are all alike", 1, woven("0;0;0", 7).repeat());
        CHECK.due("0 0 1 0 0 1 0", 3, woven("0;0;1", 7).repeat());
        CHECK.due("0 1 2 0 3: no repeat but the whole", 5, woven("0;1;2;0;3", 5).repeat());
        CHECK.due("0 1 2 0 1, a part of the second", 3, woven("0;1;2", 5).repeat());
        CHECK.due("0 1 0 0 1 0 1", 5, woven("0;1;0;0;1;0;1", 7).repeat());
        CHECK.due("the colors count", 2, woven("0;0c1", 5).repeat());
        DobbyLoom loom = woven("0;1", 4);
        loom.wind(0, 5);
        loom.weave(1);
        CHECK.due("no weft counts", 5, loom.repeat());
        loom.takeOut(1);
        loom.setFault(3, 2);
        loom.wind(0, 99);
        loom.weave(1);
        CHECK.due("a row by the same bar, but with a fault", 5, loom.repeat());
        DobbyLoom bare = Check.loomWith("-;0");
        bare.weave(1);
        bare.wind(0, 0);
        bare.weave(1);
        CHECK.due("no weft is not below", 2, bare.repeat());
        DobbyLoom planned = Check.loomWith("0;1");
        planned.setFault(0, 1);
        planned.setFault(1, 1);
        planned.weave(2);
        CHECK.due("the plans do not count", 1, planned.repeat());
    }

    private static void differentRows() {
        CHECK.begin("25 differentRows");
        CHECK.due("no rows", 0, new DobbyLoom().differentRows());
        CHECK.due("one row", 1, woven("0;1", 1).differentRows());
        CHECK.due("alike", 1, woven("0;0", 6).differentRows());
        CHECK.due("0 1 2 1 0", 3, woven("0;1;2;1;0", 5).differentRows());
        CHECK.due("colors", 3, woven("0;0c1;0c2", 9).differentRows());
        DobbyLoom loom = woven("0;1", 4);
        loom.wind(0, 5);
        loom.weave(1);
        CHECK.due("a broken row", 3, loom.differentRows());
        DobbyLoom bare = Check.loomWith("-");
        bare.weave(1);
        bare.wind(0, 0);
        bare.weave(1);
        CHECK.due("no weft is not below", 2, bare.differentRows());
    }
}
