/** Promises 10 to 12: the text and its reading as a chain. */
public final class TextTest {
    private static final Check CHECK = new Check();

    public static void main(String[] arguments) {
        append();
        clearText();
        loadChains();
        loadErrors();
        loadTooManyBars();
        loadInOtherLooms();
        loadKeepsAndChanges();
        longestTexts();
        CHECK.close("TextTest");
    }

    private static void append() {
        CHECK.begin("10 append");
        DobbyLoom loom = new DobbyLoom();
        CHECK.due("append(1)", 1, loom.append(1));
        CHECK.due("append(255)", 2, loom.append(255));
        int[] bad = {0, -1, 256, 65536 + 48, Integer.MIN_VALUE, Integer.MAX_VALUE};
        for (int character : bad) {
            CHECK.due("append(" + character + ")", DobbyLoom.INVALID_ARGUMENT, loom.append(character));
        }
        for (int length = 3; length <= 120; length++) {
            CHECK.due("append(48)", length, loom.append(48));
        }
        CHECK.due("append(48) at 120", DobbyLoom.CAPACITY_EXCEEDED, loom.append(48));
        CHECK.due("append(0) at 120", DobbyLoom.INVALID_ARGUMENT, loom.append(0));
        CHECK.due("append(256) at 120", DobbyLoom.INVALID_ARGUMENT, loom.append(256));
        CHECK.due("count(9)", 120, loom.count(9));
        CHECK.due("count(8)", 0, loom.count(8));
    }

    private static void clearText() {
        CHECK.begin("11 clearText");
        DobbyLoom loom = new DobbyLoom();
        CHECK.due("clearText() of nothing", 0, loom.clearText());
        Check.write(loom, "01;2x");
        CHECK.due("clearText()", 5, loom.clearText());
        CHECK.due("count(9)", 0, loom.count(9));
        CHECK.due("append(48)", 1, loom.append(48));
        CHECK.due("what stood behind is gone", 1, loom.load());
        Check.write(loom, "2x(0)");
        loom.clearText();
        loom.append('0');
        CHECK.due("an x of the earlier text is gone", 1, loom.load());
    }

    /** The bars are told as lift and color, lift and color, and so on. */
    private static void expectChain(String text, int... bars) {
        DobbyLoom loom = new DobbyLoom();
        CHECK.due("load of '" + text + "'", bars.length / 2, Check.load(loom, text));
        CHECK.due("count(2)", bars.length / 2, loom.count(2));
        CHECK.due("count(3)", 0, loom.count(3));
        CHECK.due("count(9)", 0, loom.count(9));
        for (int bar = 0; bar < bars.length / 2; bar++) {
            CHECK.due("lift of bar " + bar + " of '" + text + "'", bars[2 * bar], loom.bar(bar, 0));
            CHECK.due("color of bar " + bar + " of '" + text + "'", bars[2 * bar + 1], loom.bar(bar, 1));
        }
    }

    private static void loadChains() {
        CHECK.begin("12 load");
        expectChain("0", 1, 0);
        expectChain("-", 0, 0);
        expectChain("-c9", 0, 9);
        expectChain("0123c0", 15, 0);
        expectChain("03c5;12", 9, 5, 6, 0);
        expectChain("2x(0;1c3)", 1, 0, 2, 3, 1, 0, 2, 3);
        expectChain("0;2x(1);2", 1, 0, 2, 0, 2, 0, 4, 0);
        expectChain("2x(0);2x(1)", 1, 0, 1, 0, 2, 0, 2, 0);
        expectChain("3x(-c1);3", 0, 1, 0, 1, 0, 1, 8, 0);
        expectChain("2;3x(2)", 4, 0, 4, 0, 4, 0, 4, 0);
        expectChain("  0  1  c  7  ", 3, 7);
        expectChain(" 2 x ( 0 ; 1 ) ", 1, 0, 2, 0, 1, 0, 2, 0);
        expectChain(" - c 0 ; 3 ", 0, 0, 8, 0);
    }

    private static void expectError(int position, String text) {
        DobbyLoom loom = new DobbyLoom();
        CHECK.due("load of '" + text + "'", -10 - position, Check.load(loom, text));
        CHECK.due("count(2)", 0, loom.count(2));
        CHECK.due("count(8)", 0, loom.count(8));
        CHECK.due("the text is kept", text.length(), loom.clearText());
    }

    private static void loadErrors() {
        CHECK.begin("12 load, errors");
        expectError(0, "");
        expectError(3, "   ");
        expectError(0, "4");
        expectError(0, "9");
        expectError(1, " 4");
        expectError(1, "04");
        expectError(1, "00");
        expectError(1, "10");
        expectError(3, "1  0");
        expectError(1, "--");
        expectError(1, "-0");
        expectError(1, "0-");
        expectError(0, "c1");
        expectError(2, "0c");
        expectError(3, "0c ");
        expectError(2, "0ca");
        expectError(3, "0c12");
        expectError(3, "0c1c1");
        expectError(4, "0c1 2");
        expectError(1, "0C1");
        expectError(0, ";");
        expectError(2, "0;");
        expectError(4, "0 ; ");
        expectError(2, "0;;1");
        expectError(2, "0;4");
        expectError(1, "0,1");
        expectError(1, "0\t");
        expectError(1, "0" + (char) 160);
        expectError(0, "" + (char) 255);
        expectError(0, "x");
        expectError(0, "(0)");
        expectError(1, "0)");
        // A digit before an x at the beginning of a part is a NUMBER, elsewhere it is not.
        expectError(0, "0x(0)");
        expectError(0, "1x(0)");
        expectError(2, "  1  x(0)");
        expectError(2, "0;1x(0)");
        expectError(2, "01x(0)");
        expectError(2, "12x(0)");
        expectError(1, "2X(0)");
        expectError(2, "-c");
        expectError(3, "-c2x(0)");
        expectError(2, "2x");
        expectError(2, "9x");
        expectError(2, "2x0");
        expectError(2, "2xx(0)");
        expectError(3, "2x(");
        expectError(3, "2x()");
        expectError(4, "2x(0");
        expectError(5, "2x(0;");
        expectError(5, "2x(0;)");
        expectError(3, "2x(;0)");
        expectError(3, "2x(4)");
        expectError(4, "2x(2x(0))");
        expectError(3, "2x(9x(0))");
        expectError(6, "2x(0;1x(0))");
        expectError(5, "2x(0)1");
        expectError(5, "2x(0)c1");
        expectError(5, "2x(0))");
        expectError(6, "2x(0);");
        expectError(6, "2x(0) (1)");
        expectError(1, "2(0)");
    }

    private static String bars(int number, String bar) {
        StringBuilder text = new StringBuilder();
        for (int place = 0; place < number; place++) {
            text.append(place == 0 ? "" : ";").append(bar);
        }
        return text.toString();
    }

    private static void loadTooManyBars() {
        CHECK.begin("12 load, more than 24 bars");
        CHECK.due("24 bars", 24, Check.load(new DobbyLoom(), bars(24, "0c1")));
        CHECK.due("24 bars by brackets", 24, Check.load(new DobbyLoom(), "8x(0;1;2)"));
        CHECK.due("24 bars in parts", 24, Check.load(new DobbyLoom(), "9x(0;1);6x(2)"));
        expectError(48, bars(25, "0"));
        expectError(49, bars(24, "0") + "; 0;1");
        expectError(48, bars(24, "0") + ";#");
        expectError(48, bars(24, "0") + ";");
        expectError(48, bars(24, "0") + ";-c");
        expectError(48, bars(24, "0") + ";1x(0)");
        expectError(51, bars(24, "0") + ";2x(0)");
        expectError(50, bars(24, "0") + ";2x");
        expectError(47, bars(24, "0") + ")");
        expectError(10, "8x(0;1;2);0");
        expectError(8, "9x(0;1;2)");
        expectError(9, "9x(0;1;2 )");
        expectError(8, "9x(0;1;2");
        expectError(8, "9x(0;1;2#");
        expectError(8, "9x(0;1;2)#");
        expectError(50, bars(23, "0") + ";2x(0)");
        // Inside the brackets the bars count as they are read, their repetitions at the ")".
        expectError(51, bars(23, "0") + ";2x(0;1)");
        expectError(3 + 48, "2x(" + bars(25, "0") + ")");
        expectError(3 + 47, "2x(" + bars(24, "0") + ")");
        expectError(3 + 25, "2x(" + bars(13, "0") + ")");
        CHECK.due("2x of 12 bars", 24, Check.load(new DobbyLoom(), "2x(" + bars(12, "0") + ")"));
    }

    private static void loadInOtherLooms() {
        CHECK.begin("12 load, other numbers of shafts");
        DobbyLoom loom = new DobbyLoom();
        loom.setLoom(8, 4);
        CHECK.due("01234567", 1, Check.load(loom, "01234567"));
        CHECK.due("bar(0, 0)", 255, loom.bar(0, 0));
        CHECK.due("8", -10, Check.load(loom, "8"));
        CHECK.due("7;8x(7)", 9, Check.load(loom, "7;8x(7)"));
        loom.setLoom(2, 4);
        CHECK.due("2", -10, Check.load(loom, "2"));
        CHECK.due("012", -12, Check.load(loom, "012"));
        CHECK.due("9x(01)", 9, Check.load(loom, "9x(01)"));
    }

    private static void loadKeepsAndChanges() {
        CHECK.begin("12 load, what changes");
        DobbyLoom loom = Check.loomWith("0;1;2");
        loom.setDirection(1);
        loom.weave(2);
        CHECK.due("present bar", 1, loom.count(3));
        CHECK.due("load of an error", -12, Check.load(loom, "3;#"));
        CHECK.due("bars", 3, loom.count(2));
        CHECK.due("present bar", 1, loom.count(3));
        CHECK.due("load", 1, Check.load(loom, "3"));
        CHECK.due("present bar", 0, loom.count(3));
        CHECK.due("direction", 1, loom.count(4));
        CHECK.due("rows", 2, loom.count(5));
        CHECK.due("the row keeps the number of its bar", 2, loom.row(1, 1));
        CHECK.due("bar(1, 0)", DobbyLoom.INVALID_ARGUMENT, loom.bar(1, 0));
        CHECK.due("load of the empty text", -10, loom.load());
        CHECK.due("a text that breaks off in brackets", -15, Check.load(loom, "2x(0;"));
        loom.append('1');
        loom.append(')');
        CHECK.due("and goes on", 4, loom.load());
        CHECK.due("a text that breaks off in brackets", -15, Check.load(loom, "2x(0;"));
        CHECK.due("and another text", 2, Check.load(loom, "0;1"));
        loom.undo();
        loom.undo();
        loom.undo();
        CHECK.due("bars", 3, loom.count(2));
        CHECK.due("bar(2, 0)", 4, loom.bar(2, 0));
        CHECK.due("present bar", 1, loom.count(3));
    }

    private static void longestTexts() {
        CHECK.begin("12 load, 120 characters");
        CHECK.due("119 spaces and a bar", 1, Check.load(new DobbyLoom(), " ".repeat(119) + "0"));
        CHECK.due("a bar and 119 spaces", 1, Check.load(new DobbyLoom(), "0" + " ".repeat(119)));
        expectError(120, " ".repeat(120));
        expectError(120, "0;".repeat(20) + " ".repeat(80));
        expectError(119, "0" + " ".repeat(118) + "(");
        expectError(120, "0" + " ".repeat(118) + "c");
        expectError(0, "0" + " ".repeat(118) + "x");
        expectError(0, "1" + " ".repeat(118) + "x");
        expectError(120, "2" + " ".repeat(118) + "x");
        expectError(1, "2" + "(".repeat(119));
    }
}
