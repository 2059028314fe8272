/** The boundary cases of Floats and of promises 17 to 25: a test for each sentence that names one. */
public final class LookEdgeTest {
    private static final Check CHECK = new Check();
    private static final int BAD = DobbyLoom.INVALID_ARGUMENT;
    private static final int NONE = DobbyLoom.NONE;

    public static void main(String[] arguments) {
        countNamesTenNumbers();
        countOfAnEmptyLoom();
        countOfAFullLoom();
        endNamesFiveProperties();
        endOfNoRowsAndOfAllRows();
        barNamesFourProperties();
        barNeedsWithFaults();
        rowNamesSevenProperties();
        rowWithoutWeft();
        cellNamesFourThings();
        cellWithoutWeft();
        colorOfCells();
        floatsNameTwoKinds();
        floatsOfLengthOne();
        floatsOfTheGreatestLength();
        placesWithoutWeftEndFloats();
        repeatOfNoRowsAndOfOne();
        repeatUpToTheWholeCloth();
        repeatLooksAtColorAndSidesAlone();
        differentRowsOfNoneAndOfAll();
        CHECK.close("LookEdgeTest");
    }

    private static DobbyLoom loomOf(int shafts, int ends) {
        DobbyLoom loom = new DobbyLoom();
        loom.setLoom(shafts, ends);
        return loom;
    }

    /** The largest loom with a full cloth in which one end beside another, and one row above another, differ. */
    private static DobbyLoom fullLoom() {
        DobbyLoom loom = loomOf(8, 32);
        loom.addBar(0b10101010, 0);
        loom.addBar(0b01010101, 1);
        loom.wind(0, 9999);
        loom.wind(1, 9999);
        loom.weave(64);
        return loom;
    }

    private static void countNamesTenNumbers() {
        CHECK.begin("count: INVALID_ARGUMENT if what is out of range");
        DobbyLoom loom = fullLoom();
        int[] due = {8, 32, 2, 0, 0, 64, 0, 0, 5, 0};
        for (int what = -3; what < 14; what++) {
            boolean allowed = what >= 0 && what <= 9;
            CHECK.due("count(" + what + ")", allowed ? due[what] : BAD, loom.count(what));
        }
        CHECK.due("count of the least", BAD, loom.count(Integer.MIN_VALUE));
        CHECK.due("count of the greatest", BAD, loom.count(Integer.MAX_VALUE));
    }

    private static void countOfAnEmptyLoom() {
        CHECK.begin("count: NONE if there are no bars");
        int[] due = {4, 8, 0, NONE, 0, 0, 0, 0, 0, 0};
        DobbyLoom loom = new DobbyLoom();
        for (int what = 0; what < 10; what++) {
            CHECK.due("count(" + what + ")", due[what], loom.count(what));
        }
        CHECK.due("count(10) is no NONE", BAD, loom.count(10));
        loom.addBar(0, 0);
        CHECK.due("count(3) with a bar", 0, loom.count(3));
        loom.undo();
        CHECK.due("count(3) without it", NONE, loom.count(3));
    }

    private static void countOfAFullLoom() {
        CHECK.begin("count: 7 the number of wrong ends in all rows");
        DobbyLoom loom = loomOf(8, 32);
        for (int shaft = 0; shaft < 8; shaft++) {
            loom.setFault(shaft, 2);
        }
        loom.addBar(0, 0);
        loom.wind(0, 9999);
        loom.weave(64);
        CHECK.due("all of them", 32 * 64, loom.count(7));
        for (int end = 0; end < 32; end++) {
            CHECK.due("end(" + end + ", 3)", 64, loom.end(end, 3));
        }
        CHECK.due("row(0, 5)", 32, loom.row(0, 5));
        CHECK.due("row(63, 5)", 32, loom.row(63, 5));
        loom.takeOut(63);
        CHECK.due("those of one row", 32, loom.count(7));
        loom.takeOut(1);
        CHECK.due("none", 0, loom.count(7));
    }

    private static void endNamesFiveProperties() {
        CHECK.begin("end: INVALID_ARGUMENT if there is no such end or what is out of range");
        for (int ends = 4; ends <= 32; ends += 7) {
            DobbyLoom loom = loomOf(3, ends);
            int[] wrong = {Integer.MIN_VALUE, -1, ends, 32, 33, Integer.MAX_VALUE};
            for (int end : wrong) {
                for (int what = 0; what < 5; what++) {
                    CHECK.due("end(" + end + ", " + what + ")", BAD, loom.end(end, what));
                }
            }
            for (int what = -2; what < 8; what++) {
                boolean allowed = what >= 0 && what <= 4;
                int due = what == 0 ? (ends - 1) % 3 : 0;
                CHECK.due("end(0, " + what + ")", allowed ? 0 : BAD, loom.end(0, what));
                CHECK.due("end(last, " + what + ")", allowed ? due : BAD, loom.end(ends - 1, what));
                CHECK.due("end(behind it, " + what + ")", BAD, loom.end(ends, what));
            }
        }
    }

    private static void endOfNoRowsAndOfAllRows() {
        CHECK.begin("end: 4 the greatest length of a warp float of it (0 if there is none)");
        DobbyLoom loom = loomOf(2, 32);
        loom.addBar(2, 0);
        CHECK.due("no rows", 0, loom.end(31, 4));
        loom.wind(0, 0);
        loom.weave(1);
        CHECK.due("one row without weft", 0, loom.end(31, 4));
        CHECK.due("it is above in none", 0, loom.end(31, 2));
        CHECK.due("it is wrong in one", 1, loom.end(31, 3));
        loom.takeOut(1);
        loom.wind(0, 9999);
        for (int rows = 1; rows <= 64; rows++) {
            loom.weave(1);
            CHECK.due("below in " + rows, rows, loom.end(0, 4));
            CHECK.due("above in " + rows, rows, loom.end(31, 4));
            CHECK.due("rows below", 0, loom.end(0, 2));
            CHECK.due("rows above", rows, loom.end(31, 2));
        }
        DobbyLoom full = fullLoom();
        CHECK.due("above in each other row", 32, full.end(31, 2));
        CHECK.due("above and below in turn", 1, full.end(31, 4));
        // The longest float may be the first, the last, or one between.
        int[] places = {0, 1, 9};
        for (int before : places) {
            for (int behind : places) {
                DobbyLoom some = Check.loomWith("0;-;0");
                turnAndWeave(some, 0, before);
                turnAndWeave(some, 1, 4);
                turnAndWeave(some, 2, behind);
                CHECK.due("floats of " + before + ", 4, " + behind, Math.max(4, Math.max(before, behind)), some.end(0, 4));
            }
        }
    }

    private static void turnAndWeave(DobbyLoom loom, int bar, int picks) {
        for (int pick = 0; pick < picks; pick++) {
            loom.turnTo(bar);
            loom.weave(1);
        }
    }

    private static void barNamesFourProperties() {
        CHECK.begin("bar: INVALID_ARGUMENT if there is no such bar or what is out of range");
        CHECK.due("bar(0, 0) without bars", BAD, new DobbyLoom().bar(0, 0));
        CHECK.due("bar(-1, 0) without bars", BAD, new DobbyLoom().bar(-1, 0));
        DobbyLoom loom = loomOf(2, 4);
        for (int bars = 1; bars <= 24; bars++) {
            loom.addBar(3, 9);
            CHECK.due("the bar before the first", BAD, loom.bar(-1, 0));
            CHECK.due("the bar behind the last", BAD, loom.bar(bars, 0));
            CHECK.due("the last bar", 3, loom.bar(bars - 1, 0));
        }
        int[] due = {3, 9, 3, 4};
        for (int what = -2; what < 7; what++) {
            boolean allowed = what >= 0 && what <= 3;
            CHECK.due("bar(0, " + what + ")", allowed ? due[what] : BAD, loom.bar(0, what));
            CHECK.due("bar(23, " + what + ")", allowed ? due[what] : BAD, loom.bar(23, what));
            CHECK.due("bar(24, " + what + ")", BAD, loom.bar(24, what));
        }
    }

    private static void barNeedsWithFaults() {
        CHECK.begin("bar: 3 the yarn that a pick by it would need if it did not break and if it had an even number");
        for (int ends = 4; ends <= 32; ends++) {
            DobbyLoom loom = loomOf(2, ends);
            loom.addBar(0, 0);
            loom.addBar(1, 0);
            loom.addBar(3, 0);
            loom.wind(0, 0);
            CHECK.due("none above", ends, loom.bar(0, 3));
            CHECK.due("each other end above", 2 * ends - 1, loom.bar(1, 3));
            CHECK.due("all above", ends, loom.bar(2, 3));
            loom.setFault(1, 2);
            CHECK.due("none, but shaft 1 is stuck above", 2 * ends - 1, loom.bar(0, 3));
            CHECK.due("shaft 0, and shaft 1 is stuck above", ends, loom.bar(1, 3));
            CHECK.due("all, and shaft 1 is stuck above", ends, loom.bar(2, 3));
            loom.setFault(1, 1);
            CHECK.due("none, and shaft 1 is stuck below", ends, loom.bar(0, 3));
            CHECK.due("all, but shaft 1 is stuck below", 2 * ends - 1, loom.bar(2, 3));
            loom.weave(1);
            CHECK.due("while the loom stands", 2 * ends - 1, loom.bar(2, 3));
        }
    }

    private static void rowNamesSevenProperties() {
        CHECK.begin("row: INVALID_ARGUMENT if there is no such row or what is out of range");
        CHECK.due("row(0, 0) without rows", BAD, new DobbyLoom().row(0, 0));
        CHECK.due("row(-1, 0) without rows", BAD, new DobbyLoom().row(-1, 0));
        DobbyLoom loom = fullLoom();
        int[] due = {1, 1, 63, 16, 0, 0, 1};
        for (int what = -2; what < 10; what++) {
            boolean allowed = what >= 0 && what <= 6;
            CHECK.due("row(63, " + what + ")", allowed ? due[what] : BAD, loom.row(63, what));
            CHECK.due("row(64, " + what + ")", BAD, loom.row(64, what));
            CHECK.due("row(-1, " + what + ")", BAD, loom.row(-1, what));
        }
        loom.takeOut(1);
        CHECK.due("row(63, 0) that was taken out", BAD, loom.row(63, 0));
        CHECK.due("row(62, 0)", 0, loom.row(62, 0));
        loom.cutOff();
        CHECK.due("row(0, 0) that was cut off", BAD, loom.row(0, 0));
    }

    private static void rowWithoutWeft() {
        CHECK.begin("row: 6 the greatest length of a weft float in it (0 if there is none)");
        for (int ends = 4; ends <= 32; ends += 28) {
            for (int row = 0; row <= 1; row++) {
                for (int yarn = 0; yarn <= ends; yarn++) {
                    DobbyLoom loom = loomOf(2, ends);
                    loom.addBar(3, 0);
                    loom.wind(0, 9999);
                    if (row == 1) {
                        loom.weave(1);
                    }
                    loom.wind(0, yarn);
                    loom.weave(1);
                    int[] due = {0, 0, yarn, yarn, ends - yarn, ends - yarn, yarn};
                    for (int what = 0; what < 7; what++) {
                        CHECK.due("row(" + row + ", " + what + ") with yarn " + yarn, due[what], loom.row(row, what));
                    }
                }
            }
        }
    }

    private static void cellNamesFourThings() {
        CHECK.begin("cell: INVALID_ARGUMENT if there is no such place or what is out of range");
        CHECK.due("cell(0, 0, 0) without rows", BAD, new DobbyLoom().cell(0, 0, 0));
        DobbyLoom loom = fullLoom();
        int[] first = {0, 0, 0, 0};
        int[] last = {0, 1, 0, 0};
        int[] corner = {1, 0, 0, 1};
        for (int what = -2; what < 7; what++) {
            boolean allowed = what >= 0 && what <= 3;
            CHECK.due("cell(0, 0, " + what + ")", allowed ? first[what] : BAD, loom.cell(0, 0, what));
            CHECK.due("cell(63, 31, " + what + ")", allowed ? last[what] : BAD, loom.cell(63, 31, what));
            CHECK.due("cell(0, 31, " + what + ")", allowed ? corner[what] : BAD, loom.cell(0, 31, what));
            CHECK.due("cell(63, 0, " + what + ")", allowed ? corner[what] : BAD, loom.cell(63, 0, what));
            CHECK.due("cell(64, 0, " + what + ")", BAD, loom.cell(64, 0, what));
            CHECK.due("cell(-1, 0, " + what + ")", BAD, loom.cell(-1, 0, what));
            CHECK.due("cell(0, 32, " + what + ")", BAD, loom.cell(0, 32, what));
            CHECK.due("cell(0, -1, " + what + ")", BAD, loom.cell(0, -1, what));
        }
        DobbyLoom narrow = loomOf(2, 4);
        narrow.addBar(0, 0);
        narrow.weave(1);
        CHECK.due("cell(0, 4, 0) of four ends", BAD, narrow.cell(0, 4, 0));
        CHECK.due("cell(1, 0, 0) of one row", BAD, narrow.cell(1, 0, 0));
        CHECK.due("cell(0, 3, 0)", 0, narrow.cell(0, 3, 0));
    }

    private static void cellWithoutWeft() {
        CHECK.begin("cell: NONE for 0 and 1 if there is no weft");
        DobbyLoom loom = loomOf(2, 4);
        loom.addBar(2, 0);
        loom.wind(0, 0);
        loom.weave(1);
        for (int end = 0; end < 4; end++) {
            CHECK.due("cell(0, " + end + ", 0)", NONE, loom.cell(0, end, 0));
            CHECK.due("cell(0, " + end + ", 1)", NONE, loom.cell(0, end, 1));
            CHECK.due("cell(0, " + end + ", 2)", 1, loom.cell(0, end, 2));
            CHECK.due("cell(0, " + end + ", 3)", end % 2, loom.cell(0, end, 3));
            CHECK.due("cell(0, " + end + ", 4)", BAD, loom.cell(0, end, 4));
            CHECK.due("cell(0, " + end + ", -1)", BAD, loom.cell(0, end, -1));
        }
    }

    private static void colorOfCells() {
        CHECK.begin("cell: the color that the end has now, if it is above, that of the row, if it is below");
        DobbyLoom loom = loomOf(2, 4);
        for (int color = 0; color < 10; color++) {
            loom.setEnd(3, 1, color);
            loom.addBar(2, 9 - color);
        }
        loom.weave(10);
        for (int row = 0; row < 10; row++) {
            CHECK.due("above", 9, loom.cell(row, 3, 1));
            CHECK.due("below", 9 - row, loom.cell(row, 0, 1));
        }
        for (int color = 0; color < 10; color++) {
            loom.setEnd(3, 0, color);
            loom.setEnd(0, 1, color);
            loom.setBar(4, 0, color);
            CHECK.due("above, now", color, loom.cell(4, 3, 1));
            CHECK.due("below, of the row", 5, loom.cell(4, 0, 1));
        }
    }

    private static void floatsNameTwoKinds() {
        CHECK.begin("floats: INVALID_ARGUMENT if an argument is out of range");
        DobbyLoom[] looms = {new DobbyLoom(), fullLoom()};
        int[] wrongKinds = {Integer.MIN_VALUE, -1, 2, 3, Integer.MAX_VALUE};
        int[] wrongLengths = {Integer.MIN_VALUE, -1, 0, 65, Integer.MAX_VALUE};
        for (DobbyLoom loom : looms) {
            for (int kind : wrongKinds) {
                CHECK.due("floats(" + kind + ", 1)", BAD, loom.floats(kind, 1));
                CHECK.due("floats(" + kind + ", 65)", BAD, loom.floats(kind, 65));
            }
            for (int length : wrongLengths) {
                CHECK.due("floats(0, " + length + ")", BAD, loom.floats(0, length));
                CHECK.due("floats(1, " + length + ")", BAD, loom.floats(1, length));
            }
            int all = loom.count(1) * loom.count(5);
            CHECK.due("floats(0, 1)", all, loom.floats(0, 1));
            CHECK.due("floats(1, 1)", all, loom.floats(1, 1));
            CHECK.due("floats(0, 64)", 0, loom.floats(0, 64));
            CHECK.due("floats(1, 64)", 0, loom.floats(1, 64));
        }
    }

    private static void floatsOfLengthOne() {
        CHECK.begin("Each sequence that cannot be made longer is one, also of the length 1");
        DobbyLoom loom = loomOf(2, 4);
        Check.load(loom, "0;0;1");
        loom.weave(1);
        CHECK.due("one row: a warp float for each end", 4, loom.floats(0, 1));
        CHECK.due("one row: no longer one", 0, loom.floats(0, 2));
        CHECK.due("each end differs from the one beside it", 4, loom.floats(1, 1));
        loom.weave(1);
        CHECK.due("two rows alike", 4, loom.floats(0, 1));
        CHECK.due("of length 2", 4, loom.floats(0, 2));
        loom.weave(1);
        CHECK.due("and another one", 8, loom.floats(0, 1));
        CHECK.due("of length 2", 4, loom.floats(0, 2));
        CHECK.due("of length 3", 0, loom.floats(0, 3));
    }

    private static void floatsOfTheGreatestLength() {
        CHECK.begin("The length is the number of rows, or of ends");
        DobbyLoom loom = loomOf(2, 32);
        loom.addBar(3, 0);
        loom.wind(0, 9999);
        for (int rows = 1; rows <= 64; rows++) {
            loom.weave(1);
            CHECK.due("warp floats of " + rows, 32, loom.floats(0, rows));
            CHECK.due("warp floats that are longer", rows < 64 ? 0 : BAD, loom.floats(0, rows + 1));
            CHECK.due("weft floats of 32", rows, loom.floats(1, 32));
            CHECK.due("weft floats of 33", 0, loom.floats(1, 33));
        }
    }

    private static void placesWithoutWeftEndFloats() {
        CHECK.begin("Places without weft end a float and belong to none");
        for (int yarn = 0; yarn <= 4; yarn++) {
            for (int rows = 0; rows <= 3; rows++) {
                DobbyLoom loom = loomOf(2, 4);
                loom.addBar(0, 0);
                if (rows > 0) {
                    loom.weave(rows);
                }
                loom.wind(0, yarn);
                loom.weave(1);
                // As many ends as there is yarn have a float that goes on; the others' ends before the last row.
                String where = " with " + rows + " rows and yarn " + yarn;
                CHECK.due("floats(0, 1)" + where, rows == 0 ? yarn : 4, loom.floats(0, 1));
                CHECK.due("floats(0, rows + 1)" + where, yarn, loom.floats(0, rows + 1));
                CHECK.due("floats(1, 1)" + where, rows + (yarn > 0 ? 1 : 0), loom.floats(1, 1));
                CHECK.due("floats(1, 4)" + where, rows + (yarn == 4 ? 1 : 0), loom.floats(1, 4));
                CHECK.due("row(rows, 6)" + where, yarn, loom.row(rows, 6));
                int left = rows % 2 == 0 ? 0 : 3;
                CHECK.due("end(first reached, 4)" + where, yarn > 0 ? rows + 1 : rows, loom.end(left, 4));
                CHECK.due("end(last reached, 4)" + where, yarn == 4 ? rows + 1 : rows, loom.end(3 - left, 4));
            }
        }
    }

    private static void repeatOfNoRowsAndOfOne() {
        CHECK.begin("repeat: NONE if there are no rows");
        DobbyLoom loom = Check.loomWith("0;1");
        CHECK.due("no rows", NONE, loom.repeat());
        loom.weave(1);
        CHECK.due("one row", 1, loom.repeat());
        loom.takeOut(1);
        CHECK.due("no rows", NONE, loom.repeat());
        loom.wind(0, 0);
        loom.weave(1);
        CHECK.due("one row without weft", 1, loom.repeat());
        loom.takeOut(1);
        loom.cutOff();
        CHECK.due("no rows", NONE, loom.repeat());
    }

    private static void repeatUpToTheWholeCloth() {
        CHECK.begin("repeat: 1 or more, at most the number of rows");
        for (int rows = 2; rows <= 64; rows++) {
            DobbyLoom alike = loomOf(2, 4);
            alike.addBar(1, 0);
            alike.wind(0, 9999);
            alike.weave(rows - 1);
            CHECK.due("all alike", 1, alike.repeat());
            alike.setBar(0, 2, 0);
            alike.weave(1);
            CHECK.due("the last of " + rows + " differs from all", rows, alike.repeat());
            alike.takeOut(1);
            CHECK.due("without it", 1, alike.repeat());
            DobbyLoom first = loomOf(2, 4);
            first.addBar(2, 0);
            first.wind(0, 9999);
            first.weave(1);
            first.setBar(0, 1, 0);
            if (rows > 2) {
                first.weave(rows - 2);
            }
            first.setBar(0, 2, 0);
            first.weave(1);
            CHECK.due("the last of " + rows + " is like the first alone", rows == 2 ? 1 : rows - 1, first.repeat());
        }
        for (int bars = 1; bars <= 10; bars++) {
            DobbyLoom loom = loomOf(2, 4);
            for (int bar = 0; bar < bars; bar++) {
                loom.addBar(0, bar);
            }
            for (int rows = 1; rows <= 64; rows++) {
                loom.weave(1);
                CHECK.due("of " + bars + " bars in " + rows + " rows", Math.min(bars, rows), loom.repeat());
                CHECK.due("different rows", Math.min(bars, rows), loom.differentRows());
            }
        }
    }

    private static void repeatLooksAtColorAndSidesAlone() {
        CHECK.begin("repeat: in its color, and in above, below or no weft for all ends");
        DobbyLoom loom = Check.loomWith("0;0c1");
        loom.weave(2);
        CHECK.due("another color", 2, loom.repeat());
        CHECK.due("another color", 2, loom.differentRows());
        DobbyLoom bars = Check.loomWith("0;0");
        bars.weave(2);
        CHECK.due("another bar that is like it", 1, bars.repeat());
        DobbyLoom ends = loomOf(8, 32);
        ends.addBar(0, 0);
        ends.weave(1);
        ends.setEnd(31, 7, 9);
        ends.setFault(7, 2);
        for (int end = 0; end < 31; end++) {
            ends.setEnd(end, 0, 0);
        }
        ends.weave(1);
        CHECK.due("the last end alone differs", 2, ends.repeat());
        CHECK.due("the last end alone differs", 2, ends.differentRows());
        DobbyLoom broken = loomOf(2, 4);
        broken.addBar(0, 0);
        broken.weave(1);
        broken.wind(0, 3);
        broken.weave(1);
        CHECK.due("one end without weft is not below", 2, broken.repeat());
        CHECK.due("one end without weft is not below", 2, broken.differentRows());
    }

    private static void differentRowsOfNoneAndOfAll() {
        CHECK.begin("differentRows: Counts the different rows of the cloth");
        CHECK.due("no rows", 0, new DobbyLoom().differentRows());
        DobbyLoom loom = loomOf(8, 32);
        loom.addBar(0, 0);
        for (int color = 0; color < 10; color++) {
            loom.wind(color, 9999);
        }
        for (int row = 0; row < 64; row++) {
            loom.setBar(0, row + 1, row % 10);
            loom.weave(1);
            CHECK.due("all different", row + 1, loom.differentRows());
            CHECK.due("no repeat but the whole", row + 1, loom.repeat());
        }
        CHECK.due("each other one of two", 2, fullLoom().differentRows());
    }
}
