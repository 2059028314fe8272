import java.util.ArrayList;
import java.util.List;

/** Promises 1 to 9 and 16: the loom, the chain, the bobbins, and undo. */
public final class LoomTest {
    private static final Check CHECK = new Check();
    private static final int BAD = DobbyLoom.INVALID_ARGUMENT;
    private static final int STATE = DobbyLoom.ILLEGAL_STATE;
    private static final int FULL = DobbyLoom.CAPACITY_EXCEEDED;
    private static final int NONE = DobbyLoom.NONE;
    private static final int[] FAR = {Integer.MIN_VALUE, Integer.MIN_VALUE + 1, -65536, -1,
        65536, Integer.MAX_VALUE - 1, Integer.MAX_VALUE};

    public static void main(String[] arguments) {
        constants();
        newObject();
        setLoom();
        setEnd();
        setFault();
        addBar();
        setBar();
        setDirection();
        turnTo();
        wind();
        undo();
        undoRestoresEverything();
        everyActionIsRecorded();
        noErrorChangesAnything();
        CHECK.close("LoomTest");
    }

    private static void constants() {
        CHECK.begin("constants");
        CHECK.due("INVALID_ARGUMENT", -1, BAD);
        CHECK.due("ILLEGAL_STATE", -2, STATE);
        CHECK.due("CAPACITY_EXCEEDED", -3, FULL);
        CHECK.due("NONE", -9, NONE);
    }

    private static void expectAsAtFirst(DobbyLoom loom, int shafts, int ends) {
        CHECK.due("count(0)", shafts, loom.count(0));
        CHECK.due("count(1)", ends, loom.count(1));
        CHECK.due("count(2)", 0, loom.count(2));
        CHECK.due("count(3)", NONE, loom.count(3));
        CHECK.due("count(4)", 0, loom.count(4));
        CHECK.due("count(5)", 0, loom.count(5));
        CHECK.due("count(6)", 0, loom.count(6));
        CHECK.due("count(7)", 0, loom.count(7));
        for (int end = 0; end < ends; end++) {
            CHECK.due("end(" + end + ", 0)", end % shafts, loom.end(end, 0));
            CHECK.due("end(" + end + ", 1)", 0, loom.end(end, 1));
        }
        CHECK.due("end past the last", BAD, loom.end(ends, 0));
        for (int color = 0; color < 10; color++) {
            CHECK.due("yarn(" + color + ")", 300, loom.yarn(color));
        }
        CHECK.due("repeat()", NONE, loom.repeat());
        CHECK.due("differentRows()", 0, loom.differentRows());
        CHECK.due("picksLeft()", STATE, loom.picksLeft());
        CHECK.due("yarnFor(0, 1)", STATE, loom.yarnFor(0, 1));
        CHECK.due("weave(1)", STATE, loom.weave(1));
        // With a bar for no shaft, what is lifted shows the faults that are stuck above.
        CHECK.due("addBar(0, 0)", 0, loom.addBar(0, 0));
        CHECK.due("bar(0, 2)", 0, loom.bar(0, 2));
        for (int shaft = 0; shaft < shafts; shaft++) {
            CHECK.due("setFault(" + shaft + ", 0)", 0, loom.setFault(shaft, 0));
        }
        CHECK.due("setFault past the last", BAD, loom.setFault(shafts, 0));
    }

    private static void newObject() {
        CHECK.begin("1 new object");
        DobbyLoom loom = new DobbyLoom();
        CHECK.due("count(8)", 0, loom.count(8));
        CHECK.due("count(9)", 0, loom.count(9));
        CHECK.due("undo()", STATE, loom.undo());
        expectAsAtFirst(loom, 4, 8);
        DobbyLoom other = new DobbyLoom();
        other.wind(3, 7);
        CHECK.due("yarn(3) of another object", 300, loom.yarn(3));
    }

    private static void setLoom() {
        CHECK.begin("2 setLoom");
        DobbyLoom loom = Check.loomWith("01c1; 23c2; 02");
        loom.setEnd(3, 1, 5);
        loom.setFault(1, 2);
        loom.setFault(2, 1);
        loom.setDirection(1);
        loom.turnTo(2);
        loom.wind(4, 9999);
        loom.weave(5);
        Check.write(loom, "0;1");
        CHECK.due("setLoom(1, 8)", BAD, loom.setLoom(1, 8));
        CHECK.due("setLoom(9, 8)", BAD, loom.setLoom(9, 8));
        CHECK.due("setLoom(4, 3)", BAD, loom.setLoom(4, 3));
        CHECK.due("setLoom(4, 33)", BAD, loom.setLoom(4, 33));
        for (int far : FAR) {
            CHECK.due("setLoom(" + far + ", 8)", BAD, loom.setLoom(far, 8));
            CHECK.due("setLoom(4, " + far + ")", BAD, loom.setLoom(4, far));
        }
        CHECK.due("rows after wrong calls", 5, loom.count(5));
        CHECK.due("setLoom(8, 32)", 5, loom.setLoom(8, 32));
        CHECK.due("the text stays", 3, loom.count(9));
        expectAsAtFirst(loom, 8, 32);
        CHECK.due("setLoom(2, 4)", 0, loom.setLoom(2, 4));
        expectAsAtFirst(loom, 2, 4);
        CHECK.due("setLoom(3, 31)", 0, loom.setLoom(3, 31));
        expectAsAtFirst(loom, 3, 31);
        CHECK.due("setLoom with the same numbers", 0, loom.setLoom(3, 31));
        expectAsAtFirst(loom, 3, 31);
    }

    private static void setEnd() {
        CHECK.begin("3 setEnd");
        DobbyLoom loom = Check.loomWith("1");
        CHECK.due("setEnd(7, 1, 9)", 30, loom.setEnd(7, 1, 9));
        CHECK.due("setEnd(7, 0, 0)", 19, loom.setEnd(7, 0, 0));
        CHECK.due("setEnd(6, 3, 4)", 20, loom.setEnd(6, 3, 4));
        CHECK.due("end(7, 0)", 0, loom.end(7, 0));
        CHECK.due("end(6, 0)", 3, loom.end(6, 0));
        CHECK.due("end(6, 1)", 4, loom.end(6, 1));
        CHECK.due("setEnd(-1, 0, 0)", BAD, loom.setEnd(-1, 0, 0));
        CHECK.due("setEnd(8, 0, 0)", BAD, loom.setEnd(8, 0, 0));
        CHECK.due("setEnd(0, -1, 0)", BAD, loom.setEnd(0, -1, 0));
        CHECK.due("setEnd(0, 4, 0)", BAD, loom.setEnd(0, 4, 0));
        CHECK.due("setEnd(0, 0, -1)", BAD, loom.setEnd(0, 0, -1));
        CHECK.due("setEnd(0, 0, 10)", BAD, loom.setEnd(0, 0, 10));
        for (int far : FAR) {
            CHECK.due("setEnd(" + far + ", 0, 0)", BAD, loom.setEnd(far, 0, 0));
            CHECK.due("setEnd(0, " + far + ", 0)", BAD, loom.setEnd(0, far, 0));
            CHECK.due("setEnd(0, 0, " + far + ")", BAD, loom.setEnd(0, 0, far));
        }
        CHECK.due("end(0, 0)", 0, loom.end(0, 0));
        loom.setEnd(0, 1, 0);
        loom.weave(1);
        loom.setEnd(0, 2, 6);
        CHECK.due("a woven end stays above", 1, loom.cell(0, 0, 0));
        CHECK.due("its plan stays", 1, loom.cell(0, 0, 3));
        CHECK.due("its color is the new one", 6, loom.cell(0, 0, 1));
        loom.weave(1);
        CHECK.due("the next pick goes by the new shaft", 0, loom.cell(1, 0, 0));
    }

    private static void setFault() {
        CHECK.begin("4 setFault");
        DobbyLoom loom = Check.loomWith("01");
        CHECK.due("setFault(0, 1)", 0, loom.setFault(0, 1));
        CHECK.due("lifted", 2, loom.bar(0, 2));
        CHECK.due("setFault(0, 2)", 1, loom.setFault(0, 2));
        CHECK.due("setFault(3, 2)", 0, loom.setFault(3, 2));
        CHECK.due("lifted", 11, loom.bar(0, 2));
        CHECK.due("setFault(0, 0)", 2, loom.setFault(0, 0));
        CHECK.due("lifted", 11, loom.bar(0, 2));
        CHECK.due("setFault(-1, 0)", BAD, loom.setFault(-1, 0));
        CHECK.due("setFault(4, 0)", BAD, loom.setFault(4, 0));
        CHECK.due("setFault(0, -1)", BAD, loom.setFault(0, -1));
        CHECK.due("setFault(0, 3)", BAD, loom.setFault(0, 3));
        for (int far : FAR) {
            CHECK.due("setFault(" + far + ", 0)", BAD, loom.setFault(far, 0));
            CHECK.due("setFault(0, " + far + ")", BAD, loom.setFault(0, far));
        }
        loom.weave(1);
        CHECK.due("wrong by the fault", 1, loom.cell(0, 3, 2));
        loom.setFault(3, 0);
        CHECK.due("a woven place stays wrong", 1, loom.cell(0, 3, 2));
    }

    private static void addBar() {
        CHECK.begin("5 addBar");
        DobbyLoom loom = new DobbyLoom();
        CHECK.due("addBar(16, 0)", BAD, loom.addBar(16, 0));
        CHECK.due("addBar(-1, 0)", BAD, loom.addBar(-1, 0));
        CHECK.due("addBar(0, 10)", BAD, loom.addBar(0, 10));
        CHECK.due("addBar(0, -1)", BAD, loom.addBar(0, -1));
        for (int far : FAR) {
            CHECK.due("addBar(" + far + ", 0)", BAD, loom.addBar(far, 0));
            CHECK.due("addBar(0, " + far + ")", BAD, loom.addBar(0, far));
        }
        CHECK.due("bars", 0, loom.count(2));
        CHECK.due("addBar(15, 9)", 0, loom.addBar(15, 9));
        CHECK.due("present bar", 0, loom.count(3));
        CHECK.due("addBar(0, 0)", 1, loom.addBar(0, 0));
        CHECK.due("bar(0, 0)", 15, loom.bar(0, 0));
        CHECK.due("bar(0, 1)", 9, loom.bar(0, 1));
        CHECK.due("bar(1, 0)", 0, loom.bar(1, 0));
        loom.turnTo(1);
        CHECK.due("addBar(5, 5)", 2, loom.addBar(5, 5));
        CHECK.due("the present bar stays", 1, loom.count(3));
        for (int bar = 3; bar < 24; bar++) {
            CHECK.due("addBar(1, 1)", bar, loom.addBar(1, 1));
        }
        CHECK.due("addBar at 24", FULL, loom.addBar(1, 1));
        CHECK.due("addBar at 24 with a wrong lift", BAD, loom.addBar(16, 1));
        CHECK.due("addBar at 24 with a wrong color", BAD, loom.addBar(1, 10));
        CHECK.due("bars", 24, loom.count(2));
        loom.setLoom(2, 4);
        CHECK.due("addBar(4, 0) with 2 shafts", BAD, loom.addBar(4, 0));
        CHECK.due("addBar(3, 0) with 2 shafts", 0, loom.addBar(3, 0));
        loom.setLoom(8, 4);
        CHECK.due("addBar(256, 0) with 8 shafts", BAD, loom.addBar(256, 0));
        CHECK.due("addBar(255, 0) with 8 shafts", 0, loom.addBar(255, 0));
    }

    private static void setBar() {
        CHECK.begin("6 setBar");
        DobbyLoom loom = new DobbyLoom();
        CHECK.due("setBar(0, 0, 0) without bars", BAD, loom.setBar(0, 0, 0));
        Check.load(loom, "0c1;1c2;2c3");
        loom.weave(3);
        CHECK.due("setBar(2, 15, 9)", 43, loom.setBar(2, 15, 9));
        CHECK.due("setBar(2, 0, 0)", 159, loom.setBar(2, 0, 0));
        CHECK.due("setBar(0, 3, 4)", 11, loom.setBar(0, 3, 4));
        CHECK.due("bar(0, 0)", 3, loom.bar(0, 0));
        CHECK.due("bar(0, 1)", 4, loom.bar(0, 1));
        CHECK.due("the woven row keeps its color", 1, loom.row(0, 0));
        CHECK.due("the woven row keeps its plan", 0, loom.cell(0, 1, 3));
        CHECK.due("setBar(3, 0, 0)", BAD, loom.setBar(3, 0, 0));
        CHECK.due("setBar(-1, 0, 0)", BAD, loom.setBar(-1, 0, 0));
        CHECK.due("setBar(0, 16, 0)", BAD, loom.setBar(0, 16, 0));
        CHECK.due("setBar(0, -1, 0)", BAD, loom.setBar(0, -1, 0));
        CHECK.due("setBar(0, 0, 10)", BAD, loom.setBar(0, 0, 10));
        CHECK.due("setBar(0, 0, -1)", BAD, loom.setBar(0, 0, -1));
        for (int far : FAR) {
            CHECK.due("setBar(" + far + ", 0, 0)", BAD, loom.setBar(far, 0, 0));
            CHECK.due("setBar(0, " + far + ", 0)", BAD, loom.setBar(0, far, 0));
            CHECK.due("setBar(0, 0, " + far + ")", BAD, loom.setBar(0, 0, far));
        }
        CHECK.due("the present bar stays", 0, loom.count(3));
    }

    private static void setDirection() {
        CHECK.begin("7 setDirection");
        DobbyLoom loom = Check.loomWith("0;1;2");
        CHECK.due("setDirection(1)", 0, loom.setDirection(1));
        CHECK.due("setDirection(1) again", 1, loom.setDirection(1));
        loom.weave(1);
        CHECK.due("bar 0 is followed by the last one", 2, loom.count(3));
        loom.weave(1);
        CHECK.due("and that by bar 1", 1, loom.count(3));
        CHECK.due("count(4)", 1, loom.count(4));
        CHECK.due("setDirection(2)", BAD, loom.setDirection(2));
        CHECK.due("setDirection(-1)", BAD, loom.setDirection(-1));
        for (int far : FAR) {
            CHECK.due("setDirection(" + far + ")", BAD, loom.setDirection(far));
        }
        CHECK.due("setDirection(0)", 1, loom.setDirection(0));
        loom.weave(2);
        CHECK.due("forward, the last bar is followed by bar 0", 0, loom.count(3));
        CHECK.due("without bars, too", 0, new DobbyLoom().setDirection(1));
    }

    private static void turnTo() {
        CHECK.begin("8 turnTo");
        DobbyLoom loom = new DobbyLoom();
        CHECK.due("turnTo(0) without bars", BAD, loom.turnTo(0));
        Check.load(loom, "0;1;2");
        CHECK.due("turnTo(2)", 0, loom.turnTo(2));
        CHECK.due("turnTo(1)", 2, loom.turnTo(1));
        CHECK.due("turnTo(1) again", 1, loom.turnTo(1));
        CHECK.due("turnTo(3)", BAD, loom.turnTo(3));
        CHECK.due("turnTo(-1)", BAD, loom.turnTo(-1));
        for (int far : FAR) {
            CHECK.due("turnTo(" + far + ")", BAD, loom.turnTo(far));
        }
        loom.weave(1);
        CHECK.due("the row was made by bar 1", 1, loom.row(0, 1));
    }

    private static void wind() {
        CHECK.begin("9 wind");
        DobbyLoom loom = Check.loomWith("-c9");
        CHECK.due("wind(9, 0)", 300, loom.wind(9, 0));
        CHECK.due("wind(9, 9999)", 0, loom.wind(9, 9999));
        CHECK.due("wind(0, 5)", 300, loom.wind(0, 5));
        CHECK.due("wind(10, 0)", BAD, loom.wind(10, 0));
        CHECK.due("wind(-1, 0)", BAD, loom.wind(-1, 0));
        CHECK.due("wind(0, -1)", BAD, loom.wind(0, -1));
        CHECK.due("wind(0, 10000)", BAD, loom.wind(0, 10000));
        for (int far : FAR) {
            CHECK.due("wind(" + far + ", 0)", BAD, loom.wind(far, 0));
            CHECK.due("wind(0, " + far + ")", BAD, loom.wind(0, far));
        }
        CHECK.due("yarn(0)", 5, loom.yarn(0));
        loom.weave(1);
        loom.wind(9, 9999);
        loom.takeOut(1);
        CHECK.due("yarn that comes back", 10007, loom.yarn(9));
        CHECK.due("wind tells it", 10007, loom.wind(9, 9999));
    }

    private static void undo() {
        CHECK.begin("16 undo");
        DobbyLoom loom = new DobbyLoom();
        CHECK.due("undo() of nothing", STATE, loom.undo());
        for (int length = 1; length <= 7; length++) {
            loom.wind(0, length);
            CHECK.due("count(8)", Math.min(length, 5), loom.count(8));
        }
        for (int left = 4; left >= 0; left--) {
            CHECK.due("undo()", left, loom.undo());
            CHECK.due("yarn(0)", left + 2, loom.yarn(0));
        }
        CHECK.due("undo() when it is empty", STATE, loom.undo());
        CHECK.due("yarn(0)", 2, loom.yarn(0));
        loom.wind(0, 50);
        CHECK.due("undo() after a new action", 0, loom.undo());
        CHECK.due("yarn(0)", 2, loom.yarn(0));

        Check.load(loom, "01c1;23c2");
        Check.write(loom, "0;1;2");
        loom.weave(3);
        loom.setLoom(8, 32);
        CHECK.due("undo() of setLoom", 2, loom.undo());
        CHECK.due("shafts", 4, loom.count(0));
        CHECK.due("ends", 8, loom.count(1));
        CHECK.due("bars", 2, loom.count(2));
        CHECK.due("present bar", 1, loom.count(3));
        CHECK.due("rows", 3, loom.count(5));
        CHECK.due("row(1, 0)", 2, loom.row(1, 0));
        CHECK.due("the text stays", 5, loom.count(9));
        CHECK.due("undo() of weave", 1, loom.undo());
        CHECK.due("rows", 0, loom.count(5));
        CHECK.due("yarn(1)", 300, loom.yarn(1));
        CHECK.due("present bar", 0, loom.count(3));
        CHECK.due("undo() of load", 0, loom.undo());
        CHECK.due("bars", 0, loom.count(2));
        CHECK.due("present bar", NONE, loom.count(3));
        Check.load(loom, "0;1");
        CHECK.due("undo() of load", 0, loom.undo());
        CHECK.due("the text does not come back", 0, loom.count(9));
    }

    private static DobbyLoom usedLoom() {
        DobbyLoom loom = new DobbyLoom();
        loom.setLoom(3, 5);
        Check.load(loom, "02c1;1c2;-");
        loom.setEnd(1, 0, 4);
        loom.setFault(2, 2);
        loom.setDirection(1);
        loom.weave(3);
        loom.wind(1, 7);
        loom.weave(1);
        return loom;
    }

    /** All that can be seen, but for the history and the text. */
    private static List<Integer> look(DobbyLoom loom) {
        List<Integer> seen = new ArrayList<>();
        for (int what = 0; what < 8; what++) {
            seen.add(loom.count(what));
        }
        int ends = seen.get(1);
        int bars = seen.get(2);
        int rows = seen.get(5);
        for (int end = 0; end < ends; end++) {
            for (int what = 0; what < 5; what++) {
                seen.add(loom.end(end, what));
            }
        }
        for (int bar = 0; bar < bars; bar++) {
            for (int what = 0; what < 4; what++) {
                seen.add(loom.bar(bar, what));
            }
        }
        for (int color = 0; color < 10; color++) {
            seen.add(loom.yarn(color));
        }
        for (int row = 0; row < rows; row++) {
            for (int what = 0; what < 7; what++) {
                seen.add(loom.row(row, what));
            }
            for (int end = 0; end < ends; end++) {
                for (int what = 0; what < 4; what++) {
                    seen.add(loom.cell(row, end, what));
                }
            }
        }
        return seen;
    }

    private static int act(DobbyLoom loom, int action) {
        switch (action) {
            case 0: return loom.setLoom(8, 32);
            case 1: return loom.setEnd(1, 2, 9);
            case 2: return loom.setFault(2, 1);
            case 3: return loom.addBar(7, 9);
            case 4: return loom.setBar(0, 7, 9);
            case 5: return loom.setDirection(0);
            case 6: return loom.turnTo(1);
            case 7: return loom.wind(2, 9999);
            case 8: return Check.load(loom, "2c7;01c8;01c9;-c9");
            case 9: return loom.takeOut(4);
            case 10: return loom.cutOff();
            default: return loom.weave(9);
        }
    }

    private static void undoRestoresEverything() {
        CHECK.begin("16 undo, everything");
        for (int action = 0; action < 12; action++) {
            DobbyLoom loom = usedLoom();
            if (action >= 10) {
                loom.takeOut(1);
                loom.wind(1, 70);
            }
            List<Integer> before = look(loom);
            int states = loom.count(8);
            CHECK.holds("action " + action + " is taken", act(loom, action) >= 0);
            CHECK.due("undo() of action " + action, states - (states == 5 ? 1 : 0), loom.undo());
            CHECK.holds("action " + action + " is undone", look(loom).equals(before));
        }
        DobbyLoom loom = usedLoom();
        loom.takeOut(1);
        List<Integer> before = look(loom);
        loom.setLoom(2, 4);
        Check.load(loom, "01c3;1c3");
        loom.setFault(1, 2);
        loom.weave(5);
        for (int left = 4; left > 0; left--) {
            CHECK.due("undo()", left, loom.undo());
        }
        CHECK.holds("four actions are undone", look(loom).equals(before));
    }

    private static void everyActionIsRecorded() {
        CHECK.begin("16 actions");
        DobbyLoom loom = Check.loomWith("0;1");
        while (loom.count(8) > 0) {
            loom.undo();
        }
        loom.addBar(3, 0);
        CHECK.due("addBar", 1, loom.count(8));
        loom.setBar(0, 3, 0);
        CHECK.due("setBar that changes nothing", 2, loom.count(8));
        loom.setEnd(0, 0, 0);
        CHECK.due("setEnd that changes nothing", 3, loom.count(8));
        loom.setFault(0, 0);
        CHECK.due("setFault that changes nothing", 4, loom.count(8));
        loom.setDirection(0);
        CHECK.due("setDirection that changes nothing", 5, loom.count(8));
        loom.undo();
        loom.turnTo(0);
        CHECK.due("turnTo that changes nothing", 5, loom.count(8));
        loom.undo();
        loom.wind(0, 300);
        CHECK.due("wind that changes nothing", 5, loom.count(8));
        loom.undo();
        loom.cutOff();
        CHECK.due("cutOff of no rows", 5, loom.count(8));
        loom.undo();
        loom.weave(1);
        CHECK.due("weave", 5, loom.count(8));
        loom.undo();
        loom.undo();
        loom.weave(1);
        loom.takeOut(1);
        CHECK.due("takeOut", 5, loom.count(8));
        loom.undo();
        Check.load(loom, "2");
        CHECK.due("load", 5, loom.count(8));
        loom.undo();
        loom.setLoom(4, 8);
        CHECK.due("setLoom", 5, loom.count(8));
        loom.undo();
        loom.append(48);
        loom.clearText();
        loom.picksLeft();
        loom.yarnFor(0, 3);
        loom.floats(0, 1);
        CHECK.due("the text and looking are no actions", 4, loom.count(8));
    }

    private static void noErrorChangesAnything() {
        CHECK.begin("errors");
        DobbyLoom loom = Check.loomWith("0;1c1");
        loom.wind(0, 3);
        loom.weave(1);
        Check.write(loom, "0;#");
        int states = loom.count(8);
        loom.setLoom(1, 4);
        loom.setEnd(8, 0, 0);
        loom.setFault(4, 0);
        loom.addBar(16, 0);
        loom.setBar(2, 0, 0);
        loom.setDirection(2);
        loom.turnTo(2);
        loom.wind(0, 10000);
        loom.append(256);
        loom.load();
        loom.weave(0);
        loom.weave(1);
        loom.takeOut(2);
        loom.cutOff();
        CHECK.due("states", states, loom.count(8));
        CHECK.due("length of the text", 3, loom.count(9));
        CHECK.due("bars", 2, loom.count(2));
        CHECK.due("present bar", 1, loom.count(3));
        CHECK.due("rows", 1, loom.count(5));
        CHECK.due("standing", 1, loom.count(6));
        CHECK.due("yarn(0)", 0, loom.yarn(0));
    }
}
