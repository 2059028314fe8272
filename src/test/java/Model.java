import java.util.ArrayDeque;
import java.util.ArrayList;
import java.util.Deque;
import java.util.HashSet;
import java.util.List;
import java.util.Set;
import java.util.regex.Matcher;
import java.util.regex.Pattern;

/**
 * The document told a second time, place by place and without a thought for room or speed, so that its answers
 * can be held against those of DobbyLoom. It shares no code and no way of keeping things with it.
 */
final class Model {
    private static final int BAD = -1;
    private static final int STATE = -2;
    private static final int FULL = -3;
    private static final int NONE = -9;

    private record Bar(Set<Integer> lift, int color) {
        int bits() {
            return lift.stream().mapToInt(shaft -> 1 << shaft).sum();
        }
    }

    /** 'A' above, 'B' below, '.' without weft; the plan has no '.'. */
    private record Row(int color, int bar, int used, String sides, String plan) {
        boolean isBroken() {
            return sides.indexOf('.') >= 0;
        }

        boolean isWrong(int end) {
            return sides.charAt(end) != plan.charAt(end);
        }

        String look() {
            return color + sides;
        }
    }

    private static final class Things {
        int shaftNumber = 4;
        int[] shafts;
        int[] colors;
        int[] faults;
        List<Bar> bars = new ArrayList<>();
        int present;
        int backward;
        int[] yarn = new int[10];
        List<Row> rows = new ArrayList<>();

        Things(int shaftNumber, int ends) {
            this.shaftNumber = shaftNumber;
            shafts = new int[ends];
            colors = new int[ends];
            faults = new int[shaftNumber];
            for (int end = 0; end < ends; end++) {
                shafts[end] = end % shaftNumber;
            }
            java.util.Arrays.fill(yarn, 300);
        }

        Things(Things other) {
            shaftNumber = other.shaftNumber;
            shafts = other.shafts.clone();
            colors = other.colors.clone();
            faults = other.faults.clone();
            bars = new ArrayList<>(other.bars);
            present = other.present;
            backward = other.backward;
            yarn = other.yarn.clone();
            rows = new ArrayList<>(other.rows);
        }

        Set<Integer> lifted(Set<Integer> lift) {
            Set<Integer> lifted = new HashSet<>();
            for (int shaft = 0; shaft < shaftNumber; shaft++) {
                if (faults[shaft] == 2 || faults[shaft] == 0 && lift.contains(shaft)) {
                    lifted.add(shaft);
                }
            }
            return lifted;
        }

        String sides(Set<Integer> lifted) {
            StringBuilder sides = new StringBuilder();
            for (int shaft : shafts) {
                sides.append(lifted.contains(shaft) ? 'A' : 'B');
            }
            return sides.toString();
        }

        void step(boolean on) {
            int way = on == (backward == 0) ? 1 : -1;
            present = Math.floorMod(present + way, bars.size());
        }

        boolean stands() {
            return !rows.isEmpty() && rows.get(rows.size() - 1).isBroken();
        }

        void pick() {
            Bar bar = bars.get(present);
            String wanted = sides(lifted(bar.lift));
            boolean odd = rows.size() % 2 == 1;
            String order = odd ? new StringBuilder(wanted).reverse().toString() : wanted;
            StringBuilder laid = new StringBuilder();
            int used = 0;
            for (int place = 0; place < order.length(); place++) {
                boolean changes = place > 0 && order.charAt(place) != order.charAt(place - 1);
                int need = changes ? 2 : 1;
                if (yarn[bar.color] < need) {
                    break;
                }
                yarn[bar.color] -= need;
                used += need;
                laid.append(order.charAt(place));
            }
            while (laid.length() < order.length()) {
                laid.append('.');
            }
            String sides = odd ? laid.reverse().toString() : laid.toString();
            rows.add(new Row(bar.color, present, used, sides, sides(bar.lift)));
            step(true);
        }

        /** This end's sides from the first row to the last one. */
        String column(int end) {
            StringBuilder column = new StringBuilder();
            for (Row row : rows) {
                column.append(row.sides.charAt(end));
            }
            return column.toString();
        }
    }

    private Things now = new Things(4, 8);
    private final Deque<Things> history = new ArrayDeque<>();
    private final StringBuilder text = new StringBuilder();

    private static boolean outside(int value, int least, int greatest) {
        return value < least || value > greatest;
    }

    private static Set<Integer> setOf(int bits) {
        Set<Integer> set = new HashSet<>();
        for (int shaft = 0; shaft < 8; shaft++) {
            if ((bits & 1 << shaft) != 0) {
                set.add(shaft);
            }
        }
        return set;
    }

    private void act() {
        history.addLast(new Things(now));
        if (history.size() > 5) {
            history.removeFirst();
        }
    }

    private boolean noEnd(int end) {
        return outside(end, 0, now.shafts.length - 1);
    }

    private boolean noBar(int bar) {
        return outside(bar, 0, now.bars.size() - 1);
    }

    private boolean noLift(int lift) {
        return outside(lift, 0, (1 << now.shaftNumber) - 1);
    }

    int setLoom(int shafts, int ends) {
        if (outside(shafts, 2, 8) || outside(ends, 4, 32)) {
            return BAD;
        }
        act();
        int rows = now.rows.size();
        now = new Things(shafts, ends);
        return rows;
    }

    int setEnd(int end, int shaft, int color) {
        if (noEnd(end) || outside(shaft, 0, now.shaftNumber - 1) || outside(color, 0, 9)) {
            return BAD;
        }
        act();
        int before = 10 * now.shafts[end] + now.colors[end];
        now.shafts[end] = shaft;
        now.colors[end] = color;
        return before;
    }

    int setFault(int shaft, int fault) {
        if (outside(shaft, 0, now.shaftNumber - 1) || outside(fault, 0, 2)) {
            return BAD;
        }
        act();
        int before = now.faults[shaft];
        now.faults[shaft] = fault;
        return before;
    }

    int addBar(int lift, int color) {
        if (noLift(lift) || outside(color, 0, 9)) {
            return BAD;
        }
        if (now.bars.size() == 24) {
            return FULL;
        }
        act();
        now.bars.add(new Bar(setOf(lift), color));
        return now.bars.size() - 1;
    }

    int setBar(int bar, int lift, int color) {
        if (noBar(bar) || noLift(lift) || outside(color, 0, 9)) {
            return BAD;
        }
        act();
        Bar before = now.bars.set(bar, new Bar(setOf(lift), color));
        return 10 * before.bits() + before.color;
    }

    int setDirection(int backward) {
        if (outside(backward, 0, 1)) {
            return BAD;
        }
        act();
        int before = now.backward;
        now.backward = backward;
        return before;
    }

    int turnTo(int bar) {
        if (noBar(bar)) {
            return BAD;
        }
        act();
        int before = now.present;
        now.present = bar;
        return before;
    }

    int wind(int color, int length) {
        if (outside(color, 0, 9) || outside(length, 0, 9999)) {
            return BAD;
        }
        act();
        int before = now.yarn[color];
        now.yarn[color] = length;
        return before;
    }

    int append(int character) {
        if (outside(character, 1, 255)) {
            return BAD;
        }
        if (text.length() == 120) {
            return FULL;
        }
        text.append((char) character);
        return text.length();
    }

    int clearText() {
        int before = text.length();
        text.setLength(0);
        return before;
    }

    int load() {
        TextReader reader = new TextReader(text.toString(), now.shaftNumber);
        int error = reader.errorPosition();
        if (error >= 0) {
            return -10 - error;
        }
        act();
        now.bars = reader.bars();
        now.present = 0;
        text.setLength(0);
        return now.bars.size();
    }

    int weave(int picks) {
        if (outside(picks, 1, 64)) {
            return BAD;
        }
        if (now.bars.isEmpty() || now.stands()) {
            return STATE;
        }
        if (now.rows.size() == 64) {
            return FULL;
        }
        act();
        int made = 0;
        do {
            now.pick();
            made++;
        } while (made < picks && !now.stands() && now.rows.size() < 64);
        return made;
    }

    int takeOut(int rows) {
        if (outside(rows, 1, 64)) {
            return BAD;
        }
        if (now.rows.size() < rows || now.bars.isEmpty()) {
            return STATE;
        }
        act();
        for (int row = 0; row < rows; row++) {
            Row last = now.rows.remove(now.rows.size() - 1);
            now.yarn[last.color] += last.used;
            now.step(false);
        }
        return now.rows.size();
    }

    int cutOff() {
        if (now.stands()) {
            return STATE;
        }
        act();
        int rows = now.rows.size();
        now.rows.clear();
        return rows;
    }

    int undo() {
        if (history.isEmpty()) {
            return STATE;
        }
        now = history.removeLast();
        return history.size();
    }

    private int wrongIn(Row row) {
        int wrong = 0;
        for (int end = 0; end < now.shafts.length; end++) {
            wrong += row.isWrong(end) ? 1 : 0;
        }
        return wrong;
    }

    int count(int what) {
        return switch (what) {
            case 0 -> now.shaftNumber;
            case 1 -> now.shafts.length;
            case 2 -> now.bars.size();
            case 3 -> now.bars.isEmpty() ? NONE : now.present;
            case 4 -> now.backward;
            case 5 -> now.rows.size();
            case 6 -> now.stands() ? 1 : 0;
            case 7 -> now.rows.stream().mapToInt(this::wrongIn).sum();
            case 8 -> history.size();
            case 9 -> text.length();
            default -> BAD;
        };
    }

    private static List<String> floatsIn(String line) {
        List<String> floats = new ArrayList<>();
        Matcher matcher = Pattern.compile("A+|B+").matcher(line);
        while (matcher.find()) {
            floats.add(matcher.group());
        }
        return floats;
    }

    private static int longestIn(String line) {
        return floatsIn(line).stream().mapToInt(String::length).max().orElse(0);
    }

    private static int times(String line, char sign) {
        return (int) line.chars().filter(other -> other == sign).count();
    }

    int end(int end, int what) {
        if (noEnd(end) || outside(what, 0, 4)) {
            return BAD;
        }
        return switch (what) {
            case 0 -> now.shafts[end];
            case 1 -> now.colors[end];
            case 2 -> times(now.column(end), 'A');
            case 3 -> (int) now.rows.stream().filter(row -> row.isWrong(end)).count();
            default -> longestIn(now.column(end));
        };
    }

    int bar(int bar, int what) {
        if (noBar(bar) || outside(what, 0, 3)) {
            return BAD;
        }
        Bar it = now.bars.get(bar);
        return switch (what) {
            case 0 -> it.bits();
            case 1 -> it.color;
            case 2 -> new Bar(now.lifted(it.lift), 0).bits();
            default -> needOf(now, bar);
        };
    }

    /** The pick is made for a try, on a copy with all the yarn that it could need. */
    private static int needOf(Things things, int bar) {
        Things copy = new Things(things);
        copy.rows.clear();
        copy.present = bar;
        java.util.Arrays.fill(copy.yarn, 1000);
        copy.pick();
        return copy.rows.get(0).used;
    }

    int yarn(int color) {
        return outside(color, 0, 9) ? BAD : now.yarn[color];
    }

    int row(int row, int what) {
        if (outside(row, 0, now.rows.size() - 1) || outside(what, 0, 6)) {
            return BAD;
        }
        Row it = now.rows.get(row);
        return switch (what) {
            case 0 -> it.color;
            case 1 -> it.bar;
            case 2 -> it.used;
            case 3 -> times(it.sides, 'A');
            case 4 -> times(it.sides, '.');
            case 5 -> wrongIn(it);
            default -> longestIn(it.sides);
        };
    }

    int cell(int row, int end, int what) {
        if (outside(row, 0, now.rows.size() - 1) || noEnd(end) || outside(what, 0, 3)) {
            return BAD;
        }
        Row it = now.rows.get(row);
        char side = it.sides.charAt(end);
        return switch (what) {
            case 0 -> side == '.' ? NONE : side == 'A' ? 1 : 0;
            case 1 -> side == '.' ? NONE : side == 'A' ? now.colors[end] : it.color;
            case 2 -> it.isWrong(end) ? 1 : 0;
            default -> it.plan.charAt(end) == 'A' ? 1 : 0;
        };
    }

    int floats(int kind, int length) {
        if (outside(kind, 0, 1) || outside(length, 1, 64)) {
            return BAD;
        }
        List<String> all = new ArrayList<>();
        if (kind == 0) {
            for (int end = 0; end < now.shafts.length; end++) {
                all.addAll(floatsIn(now.column(end)));
            }
        } else {
            now.rows.forEach(row -> all.addAll(floatsIn(row.sides)));
        }
        return (int) all.stream().filter(one -> one.length() >= length).count();
    }

    int repeat() {
        List<String> looks = now.rows.stream().map(Row::look).toList();
        for (int distance = 1; distance <= looks.size(); distance++) {
            if (looks.subList(distance, looks.size()).equals(looks.subList(0, looks.size() - distance))) {
                return distance;
            }
        }
        return NONE;
    }

    int differentRows() {
        return (int) now.rows.stream().map(Row::look).distinct().count();
    }

    int picksLeft() {
        if (now.bars.isEmpty() || now.stands()) {
            return STATE;
        }
        Things copy = new Things(now);
        for (int pick = 0; pick < 500; pick++) {
            copy.pick();
            if (copy.stands()) {
                return pick;
            }
            // An even number of rows stays, so that the next pick goes the way it would go.
            if (copy.rows.size() > 80) {
                copy.rows.remove(0);
                copy.rows.remove(0);
            }
        }
        return 500;
    }

    int yarnFor(int color, int picks) {
        if (outside(color, 0, 9) || outside(picks, 1, 64)) {
            return BAD;
        }
        if (now.bars.isEmpty()) {
            return STATE;
        }
        Things copy = new Things(now);
        int sum = 0;
        for (int pick = 0; pick < picks; pick++) {
            sum += copy.bars.get(copy.present).color == color ? needOf(copy, copy.present) : 0;
            copy.step(true);
        }
        return sum;
    }

    /** Reads a text by trying longer and longer beginnings of it against one regular expression. */
    private static final class TextReader {
        private final String source;
        private final List<Integer> places = new ArrayList<>();
        private final String marked;
        private final Pattern grammar;

        TextReader(String source, int shafts) {
            this.source = source;
            marked = mark(source, places);
            StringBuilder digits = new StringBuilder();
            for (int shaft = 0; shaft < shafts; shaft++) {
                digits.append(shaft).append('?');
            }
            String bar = "(?:-|(?:(?=[0-9])" + digits + "))(?:c[0-9])?";
            String part = "(?:N[2-9]x\\(" + bar + "(?:;" + bar + ")*\\)|" + bar + ")";
            grammar = Pattern.compile(part + "(?:;" + part + ")*");
        }

        /** The text without spaces, with an N put before each NUMBER; places tells where each sign stood. */
        private static String mark(String source, List<Integer> places) {
            StringBuilder marked = new StringBuilder();
            int open = 0;
            char before = ';';
            for (int place = 0; place < source.length(); place++) {
                char sign = source.charAt(place);
                if (sign == ' ') {
                    continue;
                }
                boolean digit = sign >= '0' && sign <= '9';
                String rest = source.substring(place + 1).replace(" ", "");
                if (digit && before == ';' && open == 0 && rest.startsWith("x")) {
                    marked.append('N');
                    places.add(place);
                }
                // An N of the text itself must not pass for a mark.
                marked.append(sign == 'N' ? '#' : sign);
                places.add(place);
                open += sign == '(' ? 1 : sign == ')' ? -1 : 0;
                before = sign;
            }
            return marked.toString();
        }

        private boolean canGoOn(String beginning) {
            Matcher matcher = grammar.matcher(beginning);
            return matcher.matches() || matcher.hitEnd();
        }

        /** -1 if the text is a chain. */
        int errorPosition() {
            int bad = 0;
            while (bad < marked.length() && canGoOn(marked.substring(0, bad + 1))) {
                bad++;
            }
            int tooMany = placeOfTooMany(marked.substring(0, bad));
            if (tooMany >= 0) {
                return places.get(tooMany);
            }
            if (bad < marked.length()) {
                return places.get(bad);
            }
            return grammar.matcher(marked).matches() ? -1 : source.length();
        }

        private static int placeOfTooMany(String beginning) {
            int bars = 0;
            int inBrackets = 0;
            int times = 1;
            for (int place = 0; place < beginning.length(); place++) {
                char sign = beginning.charAt(place);
                char before = place == 0 ? ';' : beginning.charAt(place - 1);
                if (sign == 'N') {
                    times = beginning.length() > place + 1 ? beginning.charAt(place + 1) - '0' : 1;
                    inBrackets = 0;
                } else if (before == ';' || before == '(') {
                    bars++;
                    inBrackets++;
                } else if (sign == ')') {
                    bars += (times - 1) * inBrackets;
                }
                if (bars > 24) {
                    return place;
                }
            }
            return -1;
        }

        List<Bar> bars() {
            List<Bar> bars = new ArrayList<>();
            Matcher matcher = Pattern.compile("N(.)x\\((.*?)\\)|([^;()]+)").matcher(marked);
            while (matcher.find()) {
                boolean single = matcher.group(3) != null;
                int times = single ? 1 : matcher.group(1).charAt(0) - '0';
                String[] part = (single ? matcher.group(3) : matcher.group(2)).split(";");
                for (int copy = 0; copy < times; copy++) {
                    for (String bar : part) {
                        bars.add(barOf(bar));
                    }
                }
            }
            return bars;
        }

        private static Bar barOf(String text) {
            String[] halves = text.split("c");
            Set<Integer> lift = new HashSet<>();
            halves[0].chars().filter(sign -> sign != '-').forEach(sign -> lift.add(sign - '0'));
            return new Bar(lift, halves.length > 1 ? halves[1].charAt(0) - '0' : 0);
        }
    }
}
