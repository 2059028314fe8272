import java.util.ArrayList;
import java.util.List;
import java.util.function.Consumer;
import java.util.function.Supplier;
import java.util.function.ToIntFunction;

/**
 * All that an object answers, of a loom that can be made again and again: an object is used for at most 512 calls,
 * so each part of the look asks an object of its own.
 */
final class Look {
    private static final int CALLS = 250;

    private Look() {
    }

    /** The loom, the chain, the bobbins, the cloth, the forecasts, and the numbers of history and text. */
    static List<Integer> at(Supplier<DobbyLoom> maker) {
        DobbyLoom loom = maker.get();
        List<ToIntFunction<DobbyLoom>> questions = new ArrayList<>();
        for (int what = 0; what < 10; what++) {
            int number = what;
            questions.add(it -> it.count(number));
            questions.add(it -> it.yarn(number));
            questions.add(it -> it.yarnFor(number, 64));
        }
        questions.add(DobbyLoom::repeat);
        questions.add(DobbyLoom::differentRows);
        questions.add(DobbyLoom::picksLeft);
        addCloth(questions, loom.count(1), loom.count(2), loom.count(5));
        return ask(maker, questions);
    }

    private static void addCloth(List<ToIntFunction<DobbyLoom>> questions, int ends, int bars, int rows) {
        for (int end = 0; end < ends; end++) {
            addAll(questions, 5, end, (place, what) -> it -> it.end(place, what));
        }
        for (int bar = 0; bar < bars; bar++) {
            addAll(questions, 4, bar, (place, what) -> it -> it.bar(place, what));
        }
        for (int row = 0; row < rows; row++) {
            addAll(questions, 7, row, (place, what) -> it -> it.row(place, what));
            for (int end = 0; end < ends; end++) {
                int place = end;
                addAll(questions, 4, row, (line, what) -> it -> it.cell(line, place, what));
            }
        }
        for (int length = 1; length <= 64; length++) {
            addAll(questions, 2, length, (least, kind) -> it -> it.floats(kind, least));
        }
    }

    private interface Question {
        ToIntFunction<DobbyLoom> of(int place, int what);
    }

    private static void addAll(List<ToIntFunction<DobbyLoom>> questions, int whats, int place, Question question) {
        for (int what = 0; what < whats; what++) {
            questions.add(question.of(place, what));
        }
    }

    private static List<Integer> ask(Supplier<DobbyLoom> maker, List<ToIntFunction<DobbyLoom>> questions) {
        List<Integer> answers = new ArrayList<>();
        DobbyLoom loom = maker.get();
        for (int number = 0; number < questions.size(); number++) {
            if (number % CALLS == CALLS - 1) {
                loom = maker.get();
            }
            answers.add(questions.get(number).applyAsInt(loom));
        }
        return answers;
    }

    /** What at() tells, what it tells after each possible undo(), and what the text is read as. */
    static List<List<Integer>> through(Supplier<DobbyLoom> maker) {
        List<List<Integer>> looks = new ArrayList<>();
        int states = maker.get().count(8);
        for (int undone = 0; undone <= states; undone++) {
            int times = undone;
            looks.add(at(() -> after(maker, loom -> {
                for (int time = 0; time < times; time++) {
                    loom.undo();
                }
            })));
        }
        looks.add(text(maker.get()));
        return looks;
    }

    private static List<Integer> text(DobbyLoom loom) {
        List<Integer> read = new ArrayList<>();
        read.add(loom.load());
        for (int bar = 0; bar < loom.count(2); bar++) {
            read.add(loom.bar(bar, 0));
            read.add(loom.bar(bar, 1));
        }
        read.add(loom.clearText());
        return read;
    }

    static DobbyLoom after(Supplier<DobbyLoom> maker, Consumer<DobbyLoom> calls) {
        DobbyLoom loom = maker.get();
        calls.accept(loom);
        return loom;
    }
}
