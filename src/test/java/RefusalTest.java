import java.util.ArrayList;
import java.util.List;
import java.util.function.Supplier;
import java.util.function.ToIntFunction;

/**
 * "A call that returns an error code changes nothing. If several error conditions apply, the method returns the one
 * that its description lists first." Every refused call, in every kind of state, on an object of its own: what it
 * answers, and that the loom, the text and all states of the history are the same before and after it.
 */
public final class RefusalTest {
    private static final Check CHECK = new Check();
    private static final int BAD = DobbyLoom.INVALID_ARGUMENT;
    private static final int STATE = DobbyLoom.ILLEGAL_STATE;
    private static final int FULL = DobbyLoom.CAPACITY_EXCEEDED;
    private static final int NONE = DobbyLoom.NONE;

    private static final List<Scene> SCENES = List.of(
        new Scene("a new object", -10, DobbyLoom::new),
        new Scene("a chain and no cloth", -13, RefusalTest::chainAlone),
        new Scene("a full chain", 0, RefusalTest::fullChain),
        new Scene("a cloth with faults", -10, RefusalTest::cloth),
        new Scene("a loom that stands", 0, RefusalTest::standing),
        new Scene("a full cloth", -10, () -> fullCloth(9999)),
        new Scene("a full cloth whose last row is broken", -10, () -> fullCloth(9 * 63 + 5)),
        new Scene("a full text that is a chain", 0, () -> fullText("0;2c7")),
        new Scene("a full text that is none", -12, () -> fullText("0;;1")),
        new Scene("a full text where something is missing", -130, () -> fullText("2x(1;3")),
        new Scene("a loom that has lost its chain", -10, RefusalTest::remade));

    private record Call(String name, int due, ToIntFunction<DobbyLoom> call) {
    }

    /** A loom that can be made again and again, and what load() answers then if its text is no chain, else 0. */
    private record Scene(String name, int loadError, Supplier<DobbyLoom> maker) {
    }

    public static void main(String[] arguments) {
        scenesAreAsTheyAreCalled();
        for (Scene scene : SCENES) {
            CHECK.begin(scene.name);
            List<List<Integer>> before = Look.through(scene.maker);
            for (Call call : refusals(scene)) {
                expectNoChange(scene.maker, before, call);
            }
            lookingChangesNothing(scene.maker, before);
        }
        CHECK.close("RefusalTest");
    }

    private static void expectNoChange(Supplier<DobbyLoom> maker, List<List<Integer>> before, Call call) {
        CHECK.due(call.name, call.due, call.call.applyAsInt(maker.get()));
        List<List<Integer>> after = Look.through(() -> Look.after(maker, call.call::applyAsInt));
        CHECK.holds(call.name + " changes nothing", after.equals(before));
    }

    private static void scenesAreAsTheyAreCalled() {
        CHECK.begin("scenes");
        int[][] barsRowsStandsStatesText = {
            {0, 0, 0, 0, 0},
            {3, 0, 0, 4, 4},
            {24, 3, 0, 4, 2},
            {3, 6, 0, 5, 0},
            {2, 2, 1, 3, 1},
            {1, 64, 0, 5, 0},
            {1, 64, 1, 5, 0},
            {2, 2, 0, 2, 120},
            {2, 2, 0, 2, 120},
            {2, 2, 0, 2, 120},
            {0, 0, 0, 5, 0},
        };
        CHECK.due("scenes", SCENES.size(), barsRowsStandsStatesText.length);
        for (int scene = 0; scene < barsRowsStandsStatesText.length; scene++) {
            DobbyLoom loom = SCENES.get(scene).maker.get();
            int[] due = barsRowsStandsStatesText[scene];
            int[] whats = {2, 5, 6, 8, 9};
            for (int place = 0; place < due.length; place++) {
                CHECK.due(SCENES.get(scene).name + ", count(" + whats[place] + ")", due[place], loom.count(whats[place]));
            }
        }
    }

    private static DobbyLoom chainAlone() {
        DobbyLoom loom = new DobbyLoom();
        loom.setLoom(3, 5);
        Check.load(loom, "02c1;1c2;-");
        loom.setDirection(1);
        loom.turnTo(2);
        Check.write(loom, "12;#");
        return loom;
    }

    private static DobbyLoom fullChain() {
        DobbyLoom loom = new DobbyLoom();
        loom.setLoom(2, 4);
        Check.load(loom, "9x(0;1c9);5x(01)");
        loom.addBar(0, 3);
        loom.weave(3);
        Check.write(loom, "01");
        return loom;
    }

    private static DobbyLoom cloth() {
        DobbyLoom loom = Check.loomWith("01;12c1;23c2");
        loom.weave(4);
        loom.setFault(0, 1);
        loom.setFault(3, 2);
        loom.weave(2);
        loom.setEnd(7, 1, 9);
        return loom;
    }

    private static DobbyLoom standing() {
        DobbyLoom loom = Check.loomWith("01;2c1");
        loom.wind(1, 5);
        loom.weave(9);
        loom.append('-');
        return loom;
    }

    private static DobbyLoom fullCloth(int yarn) {
        DobbyLoom loom = new DobbyLoom();
        loom.setLoom(8, 5);
        loom.addBar(0b01010, 4);
        loom.wind(4, yarn);
        loom.weave(63);
        loom.weave(63);
        return loom;
    }

    private static DobbyLoom fullText(String text) {
        DobbyLoom loom = Check.loomWith("0;1");
        loom.weave(2);
        Check.write(loom, text + " ".repeat(120 - text.length()));
        return loom;
    }

    private static DobbyLoom remade() {
        DobbyLoom loom = cloth();
        loom.setLoom(4, 8);
        return loom;
    }

    private static List<Call> refusals(Scene scene) {
        DobbyLoom loom = scene.maker.get();
        List<Call> calls = new ArrayList<>();
        addActions(calls, loom.count(0), loom.count(1), loom.count(2));
        addLooking(calls, loom.count(1), loom.count(2), loom.count(5));
        addByState(calls, loom);
        if (scene.loadError != 0) {
            calls.add(new Call("load()", scene.loadError, DobbyLoom::load));
        }
        return calls;
    }

    private static int[] outside(int least, int greatest) {
        return new int[] {Integer.MIN_VALUE, least - 1, greatest + 1, Integer.MAX_VALUE};
    }

    private static void bad(List<Call> calls, String name, ToIntFunction<DobbyLoom> call) {
        calls.add(new Call(name, BAD, call));
    }

    private static void addActions(List<Call> calls, int shafts, int ends, int bars) {
        int lifts = 1 << shafts;
        for (int no : outside(2, 8)) {
            bad(calls, "setLoom(" + no + ", 4)", it -> it.setLoom(no, 4));
        }
        for (int no : outside(4, 32)) {
            bad(calls, "setLoom(2, " + no + ")", it -> it.setLoom(2, no));
        }
        for (int no : outside(0, ends - 1)) {
            bad(calls, "setEnd(" + no + ", 1, 5)", it -> it.setEnd(no, 1, 5));
        }
        for (int no : outside(0, shafts - 1)) {
            bad(calls, "setEnd(0, " + no + ", 5)", it -> it.setEnd(0, no, 5));
            bad(calls, "setFault(" + no + ", 1)", it -> it.setFault(no, 1));
        }
        for (int no : outside(0, 9)) {
            bad(calls, "setEnd(0, 1, " + no + ")", it -> it.setEnd(0, 1, no));
            bad(calls, "addBar(1, " + no + ")", it -> it.addBar(1, no));
            bad(calls, "setBar(0, 1, " + no + ")", it -> it.setBar(0, 1, no));
            bad(calls, "wind(" + no + ", 77)", it -> it.wind(no, 77));
        }
        for (int no : outside(0, 2)) {
            bad(calls, "setFault(1, " + no + ")", it -> it.setFault(1, no));
        }
        for (int no : outside(0, lifts - 1)) {
            bad(calls, "addBar(" + no + ", 1)", it -> it.addBar(no, 1));
            bad(calls, "setBar(0, " + no + ", 1)", it -> it.setBar(0, no, 1));
        }
        for (int no : outside(0, bars - 1)) {
            bad(calls, "setBar(" + no + ", 1, 1)", it -> it.setBar(no, 1, 1));
            bad(calls, "turnTo(" + no + ")", it -> it.turnTo(no));
        }
        for (int no : outside(0, 1)) {
            bad(calls, "setDirection(" + no + ")", it -> it.setDirection(no));
        }
        for (int no : outside(0, 9999)) {
            bad(calls, "wind(0, " + no + ")", it -> it.wind(0, no));
        }
        for (int no : outside(1, 255)) {
            bad(calls, "append(" + no + ")", it -> it.append(no));
        }
        for (int no : outside(1, 64)) {
            bad(calls, "weave(" + no + ")", it -> it.weave(no));
            bad(calls, "takeOut(" + no + ")", it -> it.takeOut(no));
        }
    }

    private static void addLooking(List<Call> calls, int ends, int bars, int rows) {
        for (int no : outside(0, 9)) {
            bad(calls, "count(" + no + ")", it -> it.count(no));
            bad(calls, "yarn(" + no + ")", it -> it.yarn(no));
            bad(calls, "yarnFor(" + no + ", 1)", it -> it.yarnFor(no, 1));
        }
        for (int no : outside(0, ends - 1)) {
            bad(calls, "end(" + no + ", 0)", it -> it.end(no, 0));
            bad(calls, "cell(0, " + no + ", 0)", it -> it.cell(0, no, 0));
        }
        for (int no : outside(0, 4)) {
            bad(calls, "end(0, " + no + ")", it -> it.end(0, no));
        }
        for (int no : outside(0, bars - 1)) {
            bad(calls, "bar(" + no + ", 0)", it -> it.bar(no, 0));
        }
        for (int no : outside(0, 3)) {
            bad(calls, "bar(0, " + no + ")", it -> it.bar(0, no));
            bad(calls, "cell(0, 0, " + no + ")", it -> it.cell(0, 0, no));
            // The last row is the one that may be without weft: the error comes before NONE.
            bad(calls, "cell(last row, 0, " + no + ")", it -> it.cell(rows - 1, 0, no));
            bad(calls, "cell(last row, last end, " + no + ")", it -> it.cell(rows - 1, ends - 1, no));
        }
        for (int no : outside(0, rows - 1)) {
            bad(calls, "row(" + no + ", 0)", it -> it.row(no, 0));
            bad(calls, "cell(" + no + ", 0, 0)", it -> it.cell(no, 0, 0));
        }
        for (int no : outside(0, 6)) {
            bad(calls, "row(0, " + no + ")", it -> it.row(0, no));
        }
        for (int no : outside(0, 1)) {
            bad(calls, "floats(" + no + ", 1)", it -> it.floats(no, 1));
        }
        for (int no : outside(1, 64)) {
            bad(calls, "floats(0, " + no + ")", it -> it.floats(0, no));
            bad(calls, "floats(1, " + no + ")", it -> it.floats(1, no));
            bad(calls, "yarnFor(0, " + no + ")", it -> it.yarnFor(0, no));
        }
    }

    /** The calls that are refused for what the loom, the chain, the cloth, the text or the history is like. */
    private static void addByState(List<Call> calls, DobbyLoom loom) {
        boolean bare = loom.count(2) == 0;
        boolean stands = loom.count(6) == 1;
        int rows = loom.count(5);
        if (bare) {
            calls.add(new Call("yarnFor(0, 1)", STATE, it -> it.yarnFor(0, 1)));
            calls.add(new Call("count(3)", NONE, it -> it.count(3)));
        }
        if (bare || stands) {
            calls.add(new Call("weave(1)", STATE, it -> it.weave(1)));
            calls.add(new Call("weave(64)", STATE, it -> it.weave(64)));
            calls.add(new Call("picksLeft()", STATE, DobbyLoom::picksLeft));
        } else if (rows == 64) {
            calls.add(new Call("weave(1)", FULL, it -> it.weave(1)));
            calls.add(new Call("weave(64)", FULL, it -> it.weave(64)));
        }
        if (rows < 64) {
            calls.add(new Call("takeOut(64)", STATE, it -> it.takeOut(64)));
            calls.add(new Call("takeOut(rows + 1)", STATE, it -> it.takeOut(rows + 1)));
        }
        if (rows == 0) {
            calls.add(new Call("repeat()", NONE, DobbyLoom::repeat));
        }
        if (stands) {
            calls.add(new Call("cutOff()", STATE, DobbyLoom::cutOff));
            int unreached = rows % 2 == 1 ? loom.count(1) - 1 : 0;
            calls.add(new Call("cell without weft, 0", NONE, it -> it.cell(rows - 1, unreached, 0)));
            calls.add(new Call("cell without weft, 1", NONE, it -> it.cell(rows - 1, unreached, 1)));
        }
        if (loom.count(8) == 0) {
            calls.add(new Call("undo()", STATE, DobbyLoom::undo));
        }
        if (loom.count(2) == 24) {
            calls.add(new Call("addBar(0, 0)", FULL, it -> it.addBar(0, 0)));
        }
        if (loom.count(9) == 120) {
            calls.add(new Call("append(1)", FULL, it -> it.append(1)));
            calls.add(new Call("append(255)", FULL, it -> it.append(255)));
        }
    }

    private static void lookingChangesNothing(Supplier<DobbyLoom> maker, List<List<Integer>> before) {
        Supplier<DobbyLoom> looked = () -> Look.after(maker, loom -> {
            loom.picksLeft();
            loom.yarnFor(0, 64);
            loom.repeat();
            loom.differentRows();
            loom.floats(0, 1);
            loom.floats(1, 1);
            for (int what = 0; what < 10; what++) {
                loom.count(what);
                loom.end(0, what);
                loom.bar(0, what);
                loom.yarn(what);
                loom.row(0, what);
                loom.cell(0, 0, what);
            }
        });
        CHECK.holds("looking changes nothing", Look.through(looked).equals(before));
    }
}
