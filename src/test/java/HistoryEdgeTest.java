import java.util.ArrayList;
import java.util.List;
import java.util.function.ToIntFunction;

/** The boundary cases of Undo and of promise 16: a test for each sentence that names one. */
public final class HistoryEdgeTest {
    private static final Check CHECK = new Check();
    private static final int STATE = DobbyLoom.ILLEGAL_STATE;
    /** The place of count(8) in what Look.at() tells: it asks three questions for each number. */
    private static final int STATES_IN_LOOK = 8 * 3;

    public static void main(String[] arguments) {
        emptyHistory();
        atMostFiveStates();
        undoIsNoAction();
        actionsAfterUndo();
        refusedActionsAreNotRecorded();
        everyActionRecords();
        textAndHistoryAreNotPartOfAState();
        everyActionIsUndoneInAFullHistory();
        rowsThatWereWovenOverComeBack();
        CHECK.close("HistoryEdgeTest");
    }

    private static void emptyHistory() {
        CHECK.begin("undo: ILLEGAL_STATE if it is empty");
        DobbyLoom loom = new DobbyLoom();
        CHECK.due("undo() of a new object", STATE, loom.undo());
        CHECK.due("count(8)", 0, loom.count(8));
        loom.append('0');
        CHECK.due("undo() after append", STATE, loom.undo());
        loom.clearText();
        CHECK.due("undo() after clearText", STATE, loom.undo());
        loom.wind(0, 1);
        CHECK.due("undo() after an action", 0, loom.undo());
        CHECK.due("yarn(0)", 300, loom.yarn(0));
        CHECK.due("undo() again", STATE, loom.undo());
        CHECK.due("yarn(0)", 300, loom.yarn(0));
    }

    private static void atMostFiveStates() {
        CHECK.begin("when a sixth one is recorded, the oldest one is dropped");
        for (int actions = 1; actions <= 23; actions++) {
            DobbyLoom loom = new DobbyLoom();
            loom.wind(0, 0);
            loom.undo();
            for (int action = 1; action <= actions; action++) {
                loom.wind(0, action);
                CHECK.due("count(8) after " + action, Math.min(action, 5), loom.count(8));
            }
            int states = Math.min(actions, 5);
            for (int undone = 1; undone <= states; undone++) {
                CHECK.due("undo()", states - undone, loom.undo());
                CHECK.due("count(8)", states - undone, loom.count(8));
                int due = actions == undone ? 300 : actions - undone;
                CHECK.due("yarn(0), " + undone + " of " + actions + " undone", due, loom.yarn(0));
            }
            CHECK.due("undo() of an empty history", STATE, loom.undo());
            CHECK.due("yarn(0)", actions <= 5 ? 300 : actions - 5, loom.yarn(0));
        }
    }

    private static void undoIsNoAction() {
        CHECK.begin("undo: Removes the latest state from the history and restores it");
        DobbyLoom loom = new DobbyLoom();
        loom.wind(0, 1);
        loom.wind(0, 2);
        CHECK.due("undo()", 1, loom.undo());
        CHECK.due("yarn(0)", 1, loom.yarn(0));
        CHECK.due("a second undo() goes on and not back", 0, loom.undo());
        CHECK.due("yarn(0)", 300, loom.yarn(0));
        CHECK.due("a third one", STATE, loom.undo());
    }

    private static void actionsAfterUndo() {
        CHECK.begin("undo: between actions, over the end of the history");
        for (int first = 0; first <= 7; first++) {
            for (int undone = 0; undone <= 5; undone++) {
                for (int second = 0; second <= 7; second++) {
                    expectLikeAList(first, undone, second);
                }
            }
        }
    }

    private static void expectLikeAList(int first, int undone, int second) {
        DobbyLoom loom = new DobbyLoom();
        List<Integer> before = new ArrayList<>();
        int yarn = 300;
        for (int action = 0; action < first + second; action++) {
            if (action == first) {
                for (int time = 0; time < undone; time++) {
                    yarn = expectUndo(loom, before, yarn);
                }
            }
            before.add(yarn);
            if (before.size() == 6) {
                before.remove(0);
            }
            yarn = 1000 + action;
            loom.wind(0, yarn);
        }
        while (!before.isEmpty()) {
            yarn = expectUndo(loom, before, yarn);
        }
        expectUndo(loom, before, yarn);
    }

    private static int expectUndo(DobbyLoom loom, List<Integer> before, int yarn) {
        boolean possible = !before.isEmpty();
        int due = possible ? before.remove(before.size() - 1) : yarn;
        CHECK.due("undo()", possible ? before.size() : STATE, loom.undo());
        CHECK.due("yarn(0)", due, loom.yarn(0));
        return due;
    }

    private static void refusedActionsAreNotRecorded() {
        CHECK.begin("Every successful call of a method that is called an action records");
        List<ToIntFunction<DobbyLoom>> refused = List.of(it -> it.setLoom(9, 8), it -> it.setEnd(8, 0, 0),
            it -> it.setFault(4, 0), it -> it.addBar(16, 0), it -> it.setBar(0, 0, 0), it -> it.setDirection(2),
            it -> it.turnTo(0), it -> it.wind(10, 0), DobbyLoom::load, it -> it.weave(1), it -> it.takeOut(1));
        for (int states = 0; states <= 5; states++) {
            DobbyLoom loom = new DobbyLoom();
            for (int action = 0; action < states; action++) {
                loom.wind(0, action);
            }
            for (ToIntFunction<DobbyLoom> call : refused) {
                CHECK.holds("it is refused", call.applyAsInt(loom) < 0);
                CHECK.due("count(8)", states, loom.count(8));
            }
            for (int action = states - 1; action >= 0; action--) {
                CHECK.due("undo()", action, loom.undo());
                CHECK.due("yarn(0)", action == 0 ? 300 : action - 1, loom.yarn(0));
            }
        }
    }

    /** A call for each method that is called an action; each one succeeds on the loom of loomForActions(). */
    private static List<ToIntFunction<DobbyLoom>> actions() {
        return List.of(it -> it.setLoom(2, 32), it -> it.setEnd(7, 0, 9), it -> it.setFault(3, 2),
            it -> it.addBar(15, 9), it -> it.setBar(1, 15, 9), it -> it.setDirection(0), it -> it.turnTo(0),
            it -> it.wind(5, 9999), it -> Check.load(it, "3c5;-"), it -> it.weave(3), it -> it.takeOut(2),
            DobbyLoom::cutOff);
    }

    private static DobbyLoom loomForActions() {
        DobbyLoom loom = Check.loomWith("01;12c5;23c6");
        loom.setDirection(1);
        loom.setFault(0, 1);
        loom.weave(4);
        return loom;
    }

    private static void everyActionRecords() {
        CHECK.begin("This is an action");
        for (ToIntFunction<DobbyLoom> action : actions()) {
            DobbyLoom loom = loomForActions();
            CHECK.due("states before", 4, loom.count(8));
            CHECK.holds("it succeeds", action.applyAsInt(loom) >= 0);
            CHECK.due("a fifth state", 5, loom.count(8));
            CHECK.holds("it succeeds again", action.applyAsInt(loom) >= 0);
            CHECK.due("no sixth one", 5, loom.count(8));
            CHECK.due("undo()", 4, loom.undo());
            CHECK.holds("and once more", action.applyAsInt(loom) >= 0);
            CHECK.due("five states", 5, loom.count(8));
        }
        // They are actions also where they leave everything as it is.
        DobbyLoom loom = Check.loomWith("0;1");
        List<ToIntFunction<DobbyLoom>> idle = List.of(it -> it.setBar(0, 1, 0), it -> it.setEnd(0, 0, 0),
            it -> it.setFault(0, 0), it -> it.setDirection(0), it -> it.turnTo(0), it -> it.wind(0, 300),
            DobbyLoom::cutOff);
        for (ToIntFunction<DobbyLoom> call : idle) {
            CHECK.due("count(8)", 1, loom.count(8));
            call.applyAsInt(loom);
            CHECK.due("count(8) after it", 2, loom.count(8));
            CHECK.due("undo()", 1, loom.undo());
        }
    }

    private static void textAndHistoryAreNotPartOfAState() {
        CHECK.begin("a state is everything but the text and the history");
        DobbyLoom loom = Check.loomWith("0;1");
        Check.write(loom, "2;3");
        loom.wind(0, 1);
        loom.append('c');
        CHECK.due("undo()", 1, loom.undo());
        CHECK.due("the text stays as it is now", 4, loom.count(9));
        loom.append('7');
        CHECK.due("load()", 2, loom.load());
        CHECK.due("bar(1, 1)", 7, loom.bar(1, 1));
        CHECK.due("undo()", 1, loom.undo());
        CHECK.due("the text does not come back", 0, loom.count(9));
        CHECK.due("bar(1, 1)", 0, loom.bar(1, 1));
        DobbyLoom full = new DobbyLoom();
        full.wind(0, 1);
        Check.write(full, "-".repeat(120));
        CHECK.due("undo() with a full text", 0, full.undo());
        CHECK.due("count(9)", 120, full.count(9));
    }

    private static void everyActionIsUndoneInAFullHistory() {
        CHECK.begin("restores it");
        List<Integer> before = Look.at(HistoryEdgeTest::loomForActions);
        for (ToIntFunction<DobbyLoom> action : actions()) {
            List<Integer> after = Look.at(() -> Look.after(HistoryEdgeTest::loomForActions, loom -> {
                loom.wind(9, 7);
                loom.undo();
                action.applyAsInt(loom);
                loom.undo();
            }));
            CHECK.holds("as it was", after.equals(before));
            List<Integer> longAfter = Look.at(() -> Look.after(HistoryEdgeTest::loomForActions, loom -> {
                action.applyAsInt(loom);
                loom.setLoom(8, 32);
                loom.addBar(255, 9);
                loom.weave(64);
                loom.setFault(7, 2);
                for (int time = 0; time < 5; time++) {
                    loom.undo();
                }
            }));
            // The five states are those before action, setLoom, addBar, weave and setFault.
            List<Integer> bare = new ArrayList<>(before);
            bare.set(STATES_IN_LOOK, 0);
            CHECK.holds("as it was, five actions before", longAfter.equals(bare));
        }
    }

    private static DobbyLoom brokenOrWhole(int yarn) {
        DobbyLoom loom = Check.loomWith("01;12c5;23c6");
        loom.setFault(0, 2);
        loom.wind(6, yarn);
        loom.weave(3);
        return loom;
    }

    private static void rowsThatWereWovenOverComeBack() {
        CHECK.begin("restores it, rows that were taken out and woven in another way, too");
        int[] yarns = {0, 5, 300};
        for (int yarn : yarns) {
            List<Integer> before = Look.at(() -> brokenOrWhole(yarn));
            List<Integer> after = Look.at(() -> Look.after(() -> brokenOrWhole(yarn), loom -> {
                loom.takeOut(3);
                Check.load(loom, "3c9;03");
                loom.wind(9, yarn == 300 ? 21 : 300);
                loom.weave(64);
                for (int time = 0; time < 4; time++) {
                    loom.undo();
                }
            }));
            List<Integer> fewer = new ArrayList<>(before);
            fewer.set(STATES_IN_LOOK, 1);
            CHECK.due("states before", 4, before.get(STATES_IN_LOOK));
            CHECK.holds("as it was with yarn " + yarn, after.equals(fewer));
        }
    }
}
