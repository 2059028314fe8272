import java.util.Random;

/** Long runs of calls, always the same ones, on DobbyLoom and on the model of the document. */
public final class ModelTest {
    private static final int RUNS = 1500;
    private static final int CALLS = 512;
    private static final int TEXTS = 40000;
    private static final Check CHECK = new Check();
    private static final String SIGNS = "0123456789-cx();  01;-#X\t";

    private final Random random;
    private DobbyLoom loom = new DobbyLoom();
    private Model model = new Model();
    private int calls;

    private ModelTest(long seed) {
        random = new Random(seed);
    }

    public static void main(String[] arguments) {
        for (int run = 0; run < RUNS; run++) {
            CHECK.begin("run " + run);
            ModelTest test = new ModelTest(run);
            while (test.calls < CALLS - 130) {
                test.oneCall();
            }
        }
        CHECK.begin("texts");
        ModelTest texts = new ModelTest(-1);
        for (int text = 0; text < TEXTS; text++) {
            texts.oneText();
        }
        CHECK.close("ModelTest");
    }

    private void due(String call, int want, int got) {
        CHECK.due("call " + calls + ", " + call, want, got);
        calls++;
    }

    /** Mostly a number of this range, sometimes one just outside, seldom one far away. */
    private int number(int least, int greatest) {
        int kind = random.nextInt(60);
        if (kind == 0) {
            return least - 1;
        }
        if (kind == 1) {
            return greatest + 1;
        }
        if (kind == 2) {
            return random.nextInt();
        }
        return greatest < least ? least : least + random.nextInt(greatest - least + 1);
    }

    private int anEnd() {
        return number(0, model.count(1) - 1);
    }

    private int aShaft() {
        return number(0, model.count(0) - 1);
    }

    private int aLift() {
        return number(0, (1 << model.count(0)) - 1);
    }

    private int aBar() {
        return number(0, model.count(2) - 1);
    }

    private int aRow() {
        return number(0, model.count(5) - 1);
    }

    private int aColor() {
        // Few colors, so that rows are often alike and bobbins often run out.
        return random.nextInt(4) == 0 ? number(0, 9) : number(0, 1);
    }

    private void oneCall() {
        switch (random.nextInt(5)) {
            case 0 -> change();
            case 1 -> weaving();
            default -> look();
        }
    }

    private void change() {
        switch (random.nextInt(24)) {
            case 0 -> {
                if (random.nextInt(3) == 0) {
                    int shafts = number(2, 8);
                    int ends = number(4, 32);
                    due("setLoom(" + shafts + ", " + ends + ")", model.setLoom(shafts, ends), loom.setLoom(shafts, ends));
                }
            }
            case 1, 2 -> {
                int end = anEnd();
                int shaft = aShaft();
                int color = aColor();
                due("setEnd(" + end + ", " + shaft + ", " + color + ")",
                    model.setEnd(end, shaft, color), loom.setEnd(end, shaft, color));
            }
            case 3, 4 -> {
                int shaft = aShaft();
                int fault = number(0, 2);
                due("setFault(" + shaft + ", " + fault + ")", model.setFault(shaft, fault), loom.setFault(shaft, fault));
            }
            case 5, 6, 7, 8 -> {
                int lift = aLift();
                int color = aColor();
                due("addBar(" + lift + ", " + color + ")", model.addBar(lift, color), loom.addBar(lift, color));
            }
            case 9, 10 -> {
                int bar = aBar();
                int lift = aLift();
                int color = aColor();
                due("setBar(" + bar + ", " + lift + ", " + color + ")",
                    model.setBar(bar, lift, color), loom.setBar(bar, lift, color));
            }
            case 11, 12 -> {
                int backward = number(0, 1);
                due("setDirection(" + backward + ")", model.setDirection(backward), loom.setDirection(backward));
            }
            case 13, 14 -> {
                int bar = aBar();
                due("turnTo(" + bar + ")", model.turnTo(bar), loom.turnTo(bar));
            }
            case 15, 16, 17 -> {
                int color = aColor();
                int length = random.nextInt(3) == 0 ? number(0, 9999) : number(0, 90);
                due("wind(" + color + ", " + length + ")", model.wind(color, length), loom.wind(color, length));
            }
            case 18 -> {
                String text = aText(30);
                for (int place = 0; place < text.length(); place++) {
                    int character = text.charAt(place);
                    due("append(" + character + ")", model.append(character), loom.append(character));
                }
            }
            case 19 -> {
                int character = number(1, 255);
                due("append(" + character + ")", model.append(character), loom.append(character));
            }
            case 20 -> due("clearText()", model.clearText(), loom.clearText());
            case 21 -> due("load()", model.load(), loom.load());
            default -> {
                for (int undone = random.nextInt(6); undone >= 0; undone--) {
                    due("undo()", model.undo(), loom.undo());
                }
            }
        }
    }

    private void weaving() {
        switch (random.nextInt(6)) {
            case 0 -> {
                int rows = random.nextBoolean() ? number(1, 3) : number(1, 64);
                due("takeOut(" + rows + ")", model.takeOut(rows), loom.takeOut(rows));
            }
            case 1 -> {
                if (random.nextInt(4) == 0) {
                    due("cutOff()", model.cutOff(), loom.cutOff());
                }
            }
            default -> {
                int picks = random.nextBoolean() ? number(1, 5) : number(1, 64);
                due("weave(" + picks + ")", model.weave(picks), loom.weave(picks));
            }
        }
    }

    private void look() {
        int what = number(0, 6);
        switch (random.nextInt(12)) {
            case 0 -> {
                int number = number(0, 9);
                due("count(" + number + ")", model.count(number), loom.count(number));
            }
            case 1 -> {
                int end = anEnd();
                due("end(" + end + ", " + what + ")", model.end(end, what), loom.end(end, what));
            }
            case 2 -> {
                int bar = aBar();
                due("bar(" + bar + ", " + what + ")", model.bar(bar, what), loom.bar(bar, what));
            }
            case 3 -> {
                int color = aColor();
                due("yarn(" + color + ")", model.yarn(color), loom.yarn(color));
            }
            case 4 -> {
                int row = aRow();
                due("row(" + row + ", " + what + ")", model.row(row, what), loom.row(row, what));
            }
            case 5, 6 -> {
                int row = aRow();
                int end = anEnd();
                due("cell(" + row + ", " + end + ", " + what + ")",
                    model.cell(row, end, what), loom.cell(row, end, what));
            }
            case 7 -> {
                int kind = number(0, 1);
                int length = random.nextBoolean() ? number(1, 6) : number(1, 64);
                due("floats(" + kind + ", " + length + ")", model.floats(kind, length), loom.floats(kind, length));
            }
            case 8 -> due("repeat()", model.repeat(), loom.repeat());
            case 9 -> due("differentRows()", model.differentRows(), loom.differentRows());
            case 10 -> due("picksLeft()", model.picksLeft(), loom.picksLeft());
            default -> {
                int color = aColor();
                int picks = number(1, 64);
                due("yarnFor(" + color + ", " + picks + ")", model.yarnFor(color, picks), loom.yarnFor(color, picks));
            }
        }
    }

    /** A text on a new loom, and the chain that it makes. */
    private void oneText() {
        loom = new DobbyLoom();
        model = new Model();
        int shafts = 2 + random.nextInt(7);
        loom.setLoom(shafts, 4);
        model.setLoom(shafts, 4);
        String text = aText(120);
        for (int place = 0; place < text.length(); place++) {
            loom.append(text.charAt(place));
            model.append(text.charAt(place));
        }
        calls = 0;
        due("load() of '" + text + "' with " + shafts + " shafts", model.load(), loom.load());
        due("count(9) after '" + text + "'", model.count(9), loom.count(9));
        for (int bar = 0; bar < model.count(2); bar++) {
            due("bar(" + bar + ", 0) of '" + text + "'", model.bar(bar, 0), loom.bar(bar, 0));
            due("bar(" + bar + ", 1) of '" + text + "'", model.bar(bar, 1), loom.bar(bar, 1));
        }
    }

    /** Half of the texts are chains, but for the number of bars; the others have some signs changed. */
    private String aText(int greatest) {
        StringBuilder text = new StringBuilder();
        int parts = 1 + random.nextInt(random.nextInt(6) == 0 ? 30 : 4);
        for (int part = 0; part < parts; part++) {
            space(text.append(part == 0 ? "" : ";"));
            if (random.nextInt(3) == 0) {
                space(text.append(2 + random.nextInt(random.nextBoolean() ? 2 : 8)));
                space(text.append("x"));
                space(text.append("("));
                addBars(text, 1 + random.nextInt(random.nextInt(4) == 0 ? 13 : 3));
                space(text.append(")"));
            } else {
                addBars(text, 1);
            }
        }
        for (int change = random.nextInt(2) * random.nextInt(4); change > 0 && text.length() > 0; change--) {
            int place = random.nextInt(text.length());
            char sign = SIGNS.charAt(random.nextInt(SIGNS.length()));
            switch (random.nextInt(3)) {
                case 0 -> text.setCharAt(place, sign);
                case 1 -> text.insert(place, sign);
                default -> text.deleteCharAt(place);
            }
        }
        return text.substring(0, Math.min(text.length(), random.nextInt(8) == 0 ? 1 + random.nextInt(greatest) : greatest));
    }

    private void addBars(StringBuilder text, int bars) {
        int shafts = model.count(0);
        for (int bar = 0; bar < bars; bar++) {
            text.append(bar == 0 ? "" : ";");
            int lift = random.nextInt(1 << shafts);
            text.append(lift == 0 ? "-" : "");
            for (int shaft = 0; shaft < shafts; shaft++) {
                space(text.append((lift & 1 << shaft) == 0 ? "" : String.valueOf(shaft)));
            }
            if (random.nextInt(3) == 0) {
                space(text.append("c"));
                space(text.append(random.nextInt(10)));
            }
        }
    }

    private void space(StringBuilder text) {
        if (random.nextInt(8) == 0) {
            text.append(" ".repeat(1 + random.nextInt(2)));
        }
    }
}
