import java.util.List;

/** The boundary cases of Text and of promises 10 to 12: a test for each sentence that names one. */
public final class TextEdgeTest {
    private static final Check CHECK = new Check();
    private static final int BAD = DobbyLoom.INVALID_ARGUMENT;
    private static final int FULL = DobbyLoom.CAPACITY_EXCEEDED;

    public static void main(String[] arguments) {
        textHoldsAtMostOneHundredAndTwenty();
        charactersAreOneToTwoHundredAndFiftyFive();
        clearTextEmptiesAnyText();
        nothingOfAnEarlierTextIsRead();
        chainHasAtLeastOnePart();
        partsAreParted();
        bracketsHoldAtLeastOneBar();
        shaftsAscend();
        shaftsAreThoseOfTheLoom();
        emptySetStandsAlone();
        colorIsOneDigit();
        numberIsTwoToNine();
        digitBeforeXIsANumberOnlyAtTheBeginningOfAPart();
        spacesStandEverywhere();
        onlySpacesAreSpaces();
        firstForeignCharacterIsTheError();
        textThatEndsTooEarly();
        barNumberTwentyFive();
        bracketThatMakesMoreThanTwentyFour();
        twentyFourBarsAndNoBar();
        loadAnswersAndChanges();
        loadThatFailsKeepsEverything();
        CHECK.close("TextEdgeTest");
    }

    private static String quoted(String text) {
        return "load() of '" + text + "'";
    }

    private static DobbyLoom loomOf(int shafts) {
        DobbyLoom loom = new DobbyLoom();
        loom.setLoom(shafts, 4);
        return loom;
    }

    /** The bars are told as lift, color, lift, color, and so on. */
    private static void chain(String text, int... bars) {
        chainOf(4, text, bars);
    }

    private static void chainOf(int shafts, String text, int... bars) {
        DobbyLoom loom = loomOf(shafts);
        CHECK.due(quoted(text), bars.length / 2, Check.load(loom, text));
        CHECK.due("bars of '" + text + "'", bars.length / 2, loom.count(2));
        for (int bar = 0; bar < bars.length / 2; bar++) {
            CHECK.due("lift " + bar + " of '" + text + "'", bars[2 * bar], loom.bar(bar, 0));
            CHECK.due("color " + bar + " of '" + text + "'", bars[2 * bar + 1], loom.bar(bar, 1));
        }
        CHECK.due("the text is empty after '" + text + "'", 0, loom.clearText());
    }

    private static void number(int bars, String text) {
        CHECK.due(quoted(text), bars, Check.load(loomOf(4), text));
    }

    private static void error(int position, String text) {
        errorOf(4, position, text);
    }

    private static void errorOf(int shafts, int position, String text) {
        DobbyLoom loom = loomOf(shafts);
        CHECK.due(quoted(text), -10 - position, Check.load(loom, text));
        CHECK.due("the same again", -10 - position, loom.load());
        CHECK.due("states after '" + text + "'", 1, loom.count(8));
        CHECK.due("bars after '" + text + "'", 0, loom.count(2));
        CHECK.due("the text '" + text + "' is kept", text.length(), loom.count(9));
    }

    private static void textHoldsAtMostOneHundredAndTwenty() {
        CHECK.begin("CAPACITY_EXCEEDED if the text already has 120 characters");
        DobbyLoom loom = new DobbyLoom();
        CHECK.due("count(9)", 0, loom.count(9));
        for (int length = 1; length <= 120; length++) {
            CHECK.due("append(48)", length, loom.append(48));
            CHECK.due("count(9)", length, loom.count(9));
        }
        CHECK.due("the 121st", FULL, loom.append(48));
        CHECK.due("the 121st, no character", BAD, loom.append(0));
        CHECK.due("the 121st, no character", BAD, loom.append(256));
        CHECK.due("count(9)", 120, loom.count(9));
        CHECK.due("load()", -11, loom.load());
        CHECK.due("the 121st after load()", FULL, loom.append(48));
        CHECK.due("clearText()", 120, loom.clearText());
        CHECK.due("append(48)", 1, loom.append(48));
        CHECK.due("load()", 1, loom.load());
        CHECK.due("append(48) after load()", 1, loom.append(48));
    }

    private static void charactersAreOneToTwoHundredAndFiftyFive() {
        CHECK.begin("character code, 1 to 255");
        for (int character = -3; character <= 300; character++) {
            DobbyLoom loom = new DobbyLoom();
            boolean allowed = character >= 1 && character <= 255;
            CHECK.due("append(" + character + ")", allowed ? 1 : BAD, loom.append(character));
            CHECK.due("count(9)", allowed ? 1 : 0, loom.count(9));
            boolean isBar = character == '-' || character >= '0' && character <= '3';
            int error = allowed && character != ' ' ? -10 : allowed ? -11 : -10;
            CHECK.due("load() of " + character, isBar ? 1 : error, loom.load());
        }
        int[] far = {Integer.MIN_VALUE, 256 + '0', 65536 + '0', Integer.MAX_VALUE};
        for (int character : far) {
            CHECK.due("append(" + character + ")", BAD, new DobbyLoom().append(character));
        }
    }

    private static void clearTextEmptiesAnyText() {
        CHECK.begin("clearText: Makes the text empty");
        int[] lengths = {0, 1, 2, 119, 120};
        for (int length : lengths) {
            DobbyLoom loom = new DobbyLoom();
            Check.write(loom, "0".repeat(length));
            CHECK.due("clearText()", length, loom.clearText());
            CHECK.due("clearText() again", 0, loom.clearText());
            CHECK.due("count(9)", 0, loom.count(9));
            CHECK.due("load()", -10, loom.load());
            CHECK.due("it is no action", 0, loom.count(8));
            loom.append('-');
            CHECK.due("nothing of the old text is left", 1, loom.load());
        }
    }

    private static void nothingOfAnEarlierTextIsRead() {
        CHECK.begin("The text becomes empty");
        String[] whole = {"0", "2", "-", "0c1", "2x(0)", "0;1"};
        String[] missing = {"", " ", "0;", "0c", "2x", "2x(", "2x(0", "2x(0;", "0; "};
        for (char sign : " 01x;()c-".toCharArray()) {
            for (String text : whole) {
                CHECK.holds(quoted(text) + " after " + sign, Check.load(loomAfterTextOf(sign), text) > 0);
            }
            for (String text : missing) {
                int due = -10 - text.length();
                CHECK.due(quoted(text) + " after " + sign, due, Check.load(loomAfterTextOf(sign), text));
            }
        }
        DobbyLoom loom = new DobbyLoom();
        CHECK.due("load()", 1, Check.load(loom, "0" + " ".repeat(119)));
        loom.append('0');
        loom.append(';');
        CHECK.due("load() after load()", -12, loom.load());
    }

    private static DobbyLoom loomAfterTextOf(char sign) {
        DobbyLoom loom = loomOf(4);
        Check.write(loom, String.valueOf(sign).repeat(120));
        loom.clearText();
        return loom;
    }

    private static void chainHasAtLeastOnePart() {
        CHECK.begin("which has at least one part");
        error(0, "");
        error(1, " ");
        error(120, " ".repeat(120));
        number(1, "0");
        number(1, "-");
        number(1, " ".repeat(119) + "-");
        number(1, "-" + " ".repeat(119));
    }

    private static void partsAreParted() {
        CHECK.begin("chain = part { ';' part }");
        chain("0;1", 1, 0, 2, 0);
        error(0, ";");
        error(0, ";0");
        error(2, "0;");
        error(2, "0;;");
        error(2, "0;;1");
        error(1, "0,1");
        error(1, "0:1");
        error(5, "2x(0)2x(1)");
        error(5, "2x(0)-");
        error(2, "-;)");
        number(4, "2x(0);2x(1)");
    }

    private static void bracketsHoldAtLeastOneBar() {
        CHECK.begin("part = NUMBER 'x' '(' bars ')'");
        chain("2x(-)", 0, 0, 0, 0);
        chain("2x(0c1;3)", 1, 1, 8, 0, 1, 1, 8, 0);
        error(3, "2x()");
        error(3, "2x(;0)");
        error(5, "2x(0;)");
        error(5, "2x(0;;1)");
        error(4, "2x(0(1))");
        error(3, "2x((0))");
        error(2, "2x[0)");
        error(4, "2x(0]");
        error(2, "2x)");
        error(5, "2x(0))");
        error(0, "(0)");
        error(0, ")");
        error(1, "0)");
        error(1, "0(");
        error(0, "x(0)");
        error(1, "3(0)");
        error(2, "2x3x(0)");
        error(2, "2xx(0)");
        error(2, "2x;0");
        error(2, "2x-");
    }

    private static void shaftsAscend() {
        CHECK.begin("each of which is the number of a shaft and greater than the one before it");
        for (int first = 0; first < 8; first++) {
            for (int second = 0; second < 8; second++) {
                String text = "" + first + second;
                if (second > first) {
                    chainOf(8, text, 1 << first | 1 << second, 0);
                } else {
                    errorOf(8, 1, text);
                }
                String third = "0" + text;
                if (first == 0) {
                    errorOf(8, 1, third);
                } else if (second > first) {
                    chainOf(8, third, 1 | 1 << first | 1 << second, 0);
                } else {
                    errorOf(8, 2, third);
                }
            }
        }
        chainOf(8, "01234567", 255, 0);
        errorOf(8, 8, "012345677");
        errorOf(8, 8, "012345670");
        errorOf(8, 8, "01234567-");
    }

    private static void shaftsAreThoseOfTheLoom() {
        CHECK.begin("each of which is the number of a shaft");
        for (int shafts = 2; shafts <= 8; shafts++) {
            for (int digit = 0; digit <= 9; digit++) {
                if (digit < shafts) {
                    chainOf(shafts, "" + digit, 1 << digit, 0);
                } else {
                    errorOf(shafts, 0, "" + digit);
                    errorOf(shafts, 1, "0" + digit);
                    errorOf(shafts, 3, "2x(" + digit + ")");
                }
            }
            errorOf(shafts, 0, "/");
            errorOf(shafts, 0, ":");
        }
        DobbyLoom loom = loomOf(8);
        Check.write(loom, "7");
        loom.setLoom(7, 4);
        CHECK.due("the shafts are those at the time of load()", -10, loom.load());
        loom.setLoom(8, 4);
        CHECK.due("the shafts are those at the time of load()", 1, loom.load());
    }

    private static void emptySetStandsAlone() {
        CHECK.begin("SHAFTS is '-' for no shaft, or a sequence of digits");
        chain("-", 0, 0);
        chain("-c0", 0, 0);
        error(1, "-0");
        error(1, "0-");
        error(1, "--");
        error(0, "c1");
        error(0, "+");
    }

    private static void colorIsOneDigit() {
        CHECK.begin("DIGIT is the color (without it the color is 0)");
        chain("1", 2, 0);
        for (int color = 0; color <= 9; color++) {
            chain("1c" + color, 2, color);
            chain("-c" + color + ";2x(2c" + color + ")", 0, color, 4, color, 4, color);
            error(3, "1c" + color + "0");
            error(3, "1c" + color + "c");
        }
        error(2, "1c");
        error(2, "1c/");
        error(2, "1c:");
        error(2, "1cc1");
        error(2, "1c-");
        error(2, "1c;");
        error(1, "1C1");
        error(5, "2x(1c)");
    }

    private static void numberIsTwoToNine() {
        CHECK.begin("NUMBER is one digit, 2 to 9 (if it is 0 or 1, it is the error)");
        error(0, "0x(0)");
        error(0, "1x(0)");
        error(0, "0x");
        error(0, "1x");
        error(2, "0;0x(0)");
        error(2, "0;1x(0)");
        for (int times = 2; times <= 9; times++) {
            number(times, times + "x(0)");
            number(1 + times, "-;" + times + "x(0)");
        }
        // The digit before the x is no shaft here, but it is a number.
        CHECK.due("9x(1) with 2 shafts", 9, Check.load(loomOf(2), "9x(1)"));
        error(1, "10x(0)");
        error(2, "12x(0)");
        error(2, "23x(0)");
        error(1, "22x(0)");
        error(0, "/x(0)");
        error(0, ":x(0)");
        error(1, "-x(0)");
    }

    private static void digitBeforeXIsANumberOnlyAtTheBeginningOfAPart() {
        CHECK.begin("At the beginning of a part, a digit that is followed by 'x' is a NUMBER; elsewhere it is not");
        number(2, "2x(0)");
        number(2, "2  x(0)");
        number(3, "0;2 x(0)");
        number(4, "2x(0);2x(0)");
        // In brackets and behind other shafts it is a shaft, and the x is not allowed.
        error(4, "2x(3x(0))");
        error(6, "2x(0;3x(0))");
        error(4, "2x(1x(0))");
        error(4, "2x(0x(0))");
        error(3, "2x(4x(0))");
        error(2, "03x(0)");
        error(3, "0c2x(0)");
        error(2, "0;x(0)");
        // Without an x behind it, it is a shaft.
        error(0, "4");
        error(0, "4(");
        error(1, "2X(0)");
        error(0, "9 ;x");
    }

    private static void spacesStandEverywhere() {
        CHECK.begin("Spaces (code 32) may stand everywhere (between the digits of SHAFTS, too)");
        String[] signs = "2x(013c7;-;2);3;-c9".split("");
        int[] due = {11, 7, 0, 0, 4, 0, 11, 7, 0, 0, 4, 0, 8, 0, 0, 9};
        chain(String.join("", signs), due);
        chain(String.join(" ", signs), due);
        chain("  " + String.join("   ", signs) + "  ", due);
        for (int place = 0; place <= signs.length; place++) {
            StringBuilder text = new StringBuilder();
            for (int sign = 0; sign < signs.length; sign++) {
                text.append(sign == place ? "     " : "").append(signs[sign]);
            }
            chain(text + (place == signs.length ? "     " : ""), due);
        }
        chain("0 1 2 3", 15, 0);
        error(3, "1  1");
        error(6, " 0  c ");
        error(3, "-  x");
        error(0, "0  x");
        error(2, "  0  x(0)");
    }

    private static void onlySpacesAreSpaces() {
        CHECK.begin("Spaces (code 32)");
        int[] others = {1, 9, 10, 13, 31, 33, 95, 127, 128, 160, 255};
        for (int other : others) {
            String sign = String.valueOf((char) other);
            error(0, sign);
            error(0, sign + "0");
            error(1, "0" + sign);
            error(1, "0" + sign + "1");
            error(1, "2" + sign + "x(0)");
            error(2, "2x" + sign + "(0)");
            error(3, "2x(" + sign + "0)");
            error(2, "0c" + sign + "1");
        }
    }

    private static void firstForeignCharacterIsTheError() {
        CHECK.begin("the offset (from 0) of the first character that is not allowed where it stands");
        // The digits before an x are shafts, too: with another sign than the x behind them, that sign is the error.
        String text = "2x(01c2;-);3c4; 3 x ( 2 )";
        number(8, text);
        for (int place = 0; place < text.length(); place++) {
            if (text.charAt(place) == ' ') {
                continue;
            }
            int[] foreign = {1, '#', 'X', 'a', 255};
            for (int sign : foreign) {
                String changed = text.substring(0, place) + (char) sign + text.substring(place + 1);
                error(place, changed);
                error(place, changed.substring(0, place + 1));
            }
        }
    }

    private static void textThatEndsTooEarly() {
        CHECK.begin("If the text ends where something is missing, it is the length of the text");
        String text = "2x(0c1;1);-c2; 3 x ( 2 )";
        List<String> whole = List.of("2", "2x(0c1;1)", "2x(0c1;1);-", "2x(0c1;1);-c2", "2x(0c1;1);-c2; 3",
            "2x(0c1;1);-c2; 3 ", text);
        for (int length = 0; length <= text.length(); length++) {
            String beginning = text.substring(0, length);
            if (!whole.contains(beginning)) {
                error(length, beginning);
                error(length + 3, beginning + "   ");
                error(120, beginning + " ".repeat(120 - length));
            }
        }
        for (String beginning : whole) {
            DobbyLoom loom = new DobbyLoom();
            CHECK.holds(quoted(beginning), Check.load(loom, beginning) > 0);
        }
    }

    private static String bars(int number) {
        return "0" + ";0".repeat(number - 1);
    }

    private static void barNumberTwentyFive() {
        CHECK.begin("for a bar that would be the 25th one, it is its first character");
        number(23, bars(23));
        number(24, bars(24));
        error(48, bars(25));
        error(48, bars(60));
        error(48, bars(24) + ";-");
        error(48, bars(24) + ";012c3");
        error(51, bars(24) + ";   1");
        error(10, "8x(0;1;2);0");
        error(10, "8x(0;1;2);-c9;2x(");
        number(24, "7x(0;1;2);0;1;2");
        error(16, "7x(0;1;2);0;1;2;3");
        error(13, "8x(0;1;2);2x(0)");
        error(50, bars(24) + " ; 1");
        // In brackets, the bars count as they are read; their repetitions count at the ")".
        error(3 + 48, "2x(" + bars(25) + ")");
        error(49 + 2, bars(23) + ";2x(0;1)");
        error(47 + 4, bars(24) + ";9x(0)");
        error(10 + 3, "8x(0;1;2);2x(0;1)");
    }

    private static void bracketThatMakesMoreThanTwentyFour() {
        CHECK.begin("or the ')' by which there would be more than 24 bars");
        for (int times = 2; times <= 9; times++) {
            int fits = 24 / times;
            String longest = times + "x(" + bars(fits) + ")";
            number(times * fits, longest);
            String tooLong = times + "x(" + bars(fits + 1) + ")";
            error(tooLong.length() - 1, tooLong);
            error(tooLong.length() + 2, times + "x(" + bars(fits + 1) + "   )");
            String behind = bars(24 - times) + ";" + times + "x(1)";
            number(24, behind);
            error(behind.length() + 1, "0;" + behind);
            // What stands behind the ")" is not looked at any more.
            error(behind.length() + 1, "0;" + behind + "#");
        }
        error(8, "9x(0;1;2)");
        error(8, "9x(0;1;2#");
        error(9, "9x(0;1;2;");
        number(24, "8x(0;1;2)");
        error(3 + 47, "2x(" + bars(24) + ")");
    }

    private static void twentyFourBarsAndNoBar() {
        CHECK.begin("24 bars, and then no bar");
        error(48, bars(24) + ";");
        error(49, bars(24) + "; ");
        error(48, bars(24) + ";#");
        error(47, bars(24) + "#");
        error(47, bars(24) + ")");
        error(48, bars(24) + ";;");
        error(48, bars(24) + ";1x(0)");
        error(50, bars(24) + ";2x");
        error(51, bars(24) + ";2x(");
        error(51, bars(24) + ";2x()");
        number(24, bars(24) + " ".repeat(120 - 47));
        error(120, bars(24) + ";" + " ".repeat(120 - 48));
    }

    private static void loadAnswersAndChanges() {
        CHECK.begin("load: bar 0 is the present one then, and the direction stays. The text becomes empty.");
        for (int backward = 0; backward <= 1; backward++) {
            DobbyLoom loom = Check.loomWith("0;1;2");
            loom.setDirection(backward);
            loom.weave(2);
            loom.turnTo(2);
            CHECK.due("load()", 24, Check.load(loom, "8x(0;1;2)"));
            CHECK.due("count(3)", 0, loom.count(3));
            CHECK.due("count(4)", backward, loom.count(4));
            CHECK.due("count(5)", 2, loom.count(5));
            CHECK.due("count(9)", 0, loom.count(9));
            CHECK.due("load() of the text that is empty now", -10, loom.load());
            loom.turnTo(23);
            CHECK.due("in place of the present one", 1, Check.load(loom, "3"));
            CHECK.due("count(2)", 1, loom.count(2));
            CHECK.due("count(3)", 0, loom.count(3));
            CHECK.due("bar(1, 0)", BAD, loom.bar(1, 0));
            CHECK.due("turnTo(1)", BAD, loom.turnTo(1));
        }
    }

    private static void loadThatFailsKeepsEverything() {
        CHECK.begin("if the text is no chain (then nothing changes, and the text is kept)");
        DobbyLoom loom = Check.loomWith("0c1;1c2;2c3");
        loom.weave(2);
        int[] lifts = {1, 2, 4};
        String[] texts = {"", "3;#", "2x(3;2", "9x(3;2;1)", bars(25)};
        int[] due = {-10, -12, -16, -18, -58};
        for (int text = 0; text < texts.length; text++) {
            CHECK.due(quoted(texts[text]), due[text], Check.load(loom, texts[text]));
            CHECK.due("count(2)", 3, loom.count(2));
            CHECK.due("count(3)", 2, loom.count(3));
            CHECK.due("count(8)", 2, loom.count(8));
            CHECK.due("count(9)", texts[text].length(), loom.count(9));
            for (int bar = 0; bar < 3; bar++) {
                CHECK.due("lift of bar " + bar, lifts[bar], loom.bar(bar, 0));
                CHECK.due("color of bar " + bar, bar + 1, loom.bar(bar, 1));
            }
        }
        Check.write(loom, "2x(3;2");
        CHECK.due("load()", -16, loom.load());
        CHECK.due("the text goes on", 7, loom.append(')'));
        CHECK.due("load()", 4, loom.load());
    }
}
