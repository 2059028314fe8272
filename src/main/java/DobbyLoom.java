/** A loom with a dobby, as ../shared/DOC.md describes it. */
public final class DobbyLoom {
    public static final int INVALID_ARGUMENT = -1;
    public static final int ILLEGAL_STATE = -2;
    public static final int CAPACITY_EXCEEDED = -3;
    public static final int NONE = -9;

    private static final int MIN_SHAFTS = 2;
    private static final int MAX_SHAFTS = 8;
    private static final int FIRST_SHAFTS = 4;
    private static final int MIN_ENDS = 4;
    private static final int MAX_ENDS = 32;
    private static final int FIRST_ENDS = 8;
    private static final int COLORS = 10;
    private static final int STUCK_BELOW = 1;
    private static final int STUCK_ABOVE = 2;
    private static final int MAX_BARS = 24;
    private static final int FIRST_YARN = 300;
    private static final int MAX_WOUND = 9999;
    private static final int MAX_ROWS = 64;
    private static final int MAX_TEXT = 120;
    private static final int MAX_CHARACTER = 255;
    private static final int MAX_HISTORY = 5;
    private static final int MAX_FORECAST = 500;
    private static final int NO_CHAIN = -10;
    private static final int WARP_FLOATS = 0;
    private static final int WEFT_FLOATS = 1;
    private static final int NO_WEFT = -1;

    private final State now;
    private final History history;
    private final ChainReader reader;
    // The forecasts use these two again and again, so that no call makes an object.
    private final Numbers needs;
    private final Numbers yarnLeft;

    public DobbyLoom() {
        now = new State();
        history = new History();
        reader = new ChainReader();
        needs = new Numbers(MAX_BARS);
        yarnLeft = new Numbers(COLORS);
    }

    // ---- the loom

    public int setLoom(int shafts, int ends) {
        if (!isBetween(shafts, MIN_SHAFTS, MAX_SHAFTS) || !isBetween(ends, MIN_ENDS, MAX_ENDS)) {
            return INVALID_ARGUMENT;
        }
        history.keep(now);
        int rows = now.cloth.rows;
        now.reset(shafts, ends);
        return rows;
    }

    public int setEnd(int end, int shaft, int color) {
        Warp warp = now.warp;
        if (!warp.hasEnd(end) || !warp.hasShaft(shaft) || !isColor(color)) {
            return INVALID_ARGUMENT;
        }
        history.keep(now);
        int before = 10 * warp.shaftOf.at(end) + warp.colorOf.at(end);
        warp.shaftOf.put(end, shaft);
        warp.colorOf.put(end, color);
        return before;
    }

    public int setFault(int shaft, int fault) {
        if (!now.warp.hasShaft(shaft) || !isBetween(fault, 0, STUCK_ABOVE)) {
            return INVALID_ARGUMENT;
        }
        history.keep(now);
        int before = now.warp.faultOf.at(shaft);
        now.warp.faultOf.put(shaft, fault);
        return before;
    }

    public int addBar(int lift, int color) {
        if (!now.warp.isLift(lift) || !isColor(color)) {
            return INVALID_ARGUMENT;
        }
        if (now.chain.isFull()) {
            return CAPACITY_EXCEEDED;
        }
        history.keep(now);
        now.chain.addLast(lift, color);
        return now.chain.bars - 1;
    }

    public int setBar(int bar, int lift, int color) {
        Chain chain = now.chain;
        if (!chain.hasBar(bar) || !now.warp.isLift(lift) || !isColor(color)) {
            return INVALID_ARGUMENT;
        }
        history.keep(now);
        int before = 10 * chain.liftOf.at(bar) + chain.colorOf.at(bar);
        chain.liftOf.put(bar, lift);
        chain.colorOf.put(bar, color);
        return before;
    }

    public int setDirection(int backward) {
        if (!isBetween(backward, 0, 1)) {
            return INVALID_ARGUMENT;
        }
        history.keep(now);
        int before = now.chain.backward;
        now.chain.backward = backward;
        return before;
    }

    public int turnTo(int bar) {
        if (!now.chain.hasBar(bar)) {
            return INVALID_ARGUMENT;
        }
        history.keep(now);
        int before = now.chain.present;
        now.chain.present = bar;
        return before;
    }

    public int wind(int color, int length) {
        if (!isColor(color) || !isBetween(length, 0, MAX_WOUND)) {
            return INVALID_ARGUMENT;
        }
        history.keep(now);
        int before = now.bobbins.at(color);
        now.bobbins.put(color, length);
        return before;
    }

    public int append(int character) {
        if (!isBetween(character, 1, MAX_CHARACTER)) {
            return INVALID_ARGUMENT;
        }
        if (reader.isFull()) {
            return CAPACITY_EXCEEDED;
        }
        reader.addLast(character);
        return reader.length;
    }

    public int clearText() {
        int before = reader.length;
        reader.length = 0;
        return before;
    }

    public int load() {
        if (!reader.readChain(now.warp.shafts)) {
            return NO_CHAIN - reader.position;
        }
        history.keep(now);
        now.chain.takeBarsOf(reader.chain);
        reader.length = 0;
        return now.chain.bars;
    }

    // ---- weaving

    public int weave(int picks) {
        if (!isBetween(picks, 1, MAX_ROWS)) {
            return INVALID_ARGUMENT;
        }
        if (now.chain.bars == 0 || now.cloth.isStanding()) {
            return ILLEGAL_STATE;
        }
        if (now.cloth.isFull()) {
            return CAPACITY_EXCEEDED;
        }
        history.keep(now);
        int made = 0;
        while (made < picks && !now.cloth.isFull() && !now.cloth.isStanding()) {
            now.makePick();
            made++;
        }
        return made;
    }

    public int takeOut(int rows) {
        if (!isBetween(rows, 1, MAX_ROWS)) {
            return INVALID_ARGUMENT;
        }
        if (rows > now.cloth.rows || now.chain.bars == 0) {
            return ILLEGAL_STATE;
        }
        history.keep(now);
        for (int taken = 0; taken < rows; taken++) {
            now.takeOutLastRow();
        }
        return now.cloth.rows;
    }

    public int cutOff() {
        if (now.cloth.isStanding()) {
            return ILLEGAL_STATE;
        }
        history.keep(now);
        int rows = now.cloth.rows;
        now.cloth.rows = 0;
        return rows;
    }

    public int undo() {
        if (history.kept == 0) {
            return ILLEGAL_STATE;
        }
        history.restoreInto(now);
        return history.kept;
    }

    // ---- looking

    public int count(int what) {
        switch (what) {
            case 0: return now.warp.shafts;
            case 1: return now.warp.ends;
            case 2: return now.chain.bars;
            case 3: return now.chain.bars == 0 ? NONE : now.chain.present;
            case 4: return now.chain.backward;
            case 5: return now.cloth.rows;
            case 6: return now.cloth.isStanding() ? 1 : 0;
            case 7: return now.cloth.wrongPlaces();
            case 8: return history.kept;
            case 9: return reader.length;
            default: return INVALID_ARGUMENT;
        }
    }

    public int end(int end, int what) {
        if (!now.warp.hasEnd(end)) {
            return INVALID_ARGUMENT;
        }
        switch (what) {
            case 0: return now.warp.shaftOf.at(end);
            case 1: return now.warp.colorOf.at(end);
            case 2: return now.cloth.rowsAbove(end);
            case 3: return now.cloth.rowsWrong(end);
            case 4: return now.cloth.longestFloat(WARP_FLOATS, end, now.cloth.rows);
            default: return INVALID_ARGUMENT;
        }
    }

    public int bar(int bar, int what) {
        if (!now.chain.hasBar(bar)) {
            return INVALID_ARGUMENT;
        }
        int lift = now.chain.liftOf.at(bar);
        switch (what) {
            case 0: return lift;
            case 1: return now.chain.colorOf.at(bar);
            case 2: return now.warp.liftedShafts(lift);
            case 3: return now.warp.yarnOfWholePick(lift);
            default: return INVALID_ARGUMENT;
        }
    }

    public int yarn(int color) {
        return isColor(color) ? now.bobbins.at(color) : INVALID_ARGUMENT;
    }

    public int row(int row, int what) {
        Cloth cloth = now.cloth;
        if (!cloth.hasRow(row)) {
            return INVALID_ARGUMENT;
        }
        switch (what) {
            case 0: return cloth.colorOf.at(row);
            case 1: return cloth.barOf.at(row);
            case 2: return cloth.usedOf.at(row);
            case 3: return Integer.bitCount(cloth.aboveOf.at(row));
            case 4: return Integer.bitCount(cloth.missingOf.at(row));
            case 5: return Integer.bitCount(cloth.wrongEnds(row));
            case 6: return cloth.longestFloat(WEFT_FLOATS, row, now.warp.ends);
            default: return INVALID_ARGUMENT;
        }
    }

    public int cell(int row, int end, int what) {
        if (!now.cloth.hasRow(row) || !now.warp.hasEnd(end)) {
            return INVALID_ARGUMENT;
        }
        int side = now.cloth.sideAt(row, end);
        switch (what) {
            case 0: return side == NO_WEFT ? NONE : side;
            case 1: return side == NO_WEFT ? NONE : seenColor(row, end, side);
            case 2: return bitOf(now.cloth.wrongEnds(row), end);
            case 3: return bitOf(now.cloth.planOf.at(row), end);
            default: return INVALID_ARGUMENT;
        }
    }

    public int floats(int kind, int length) {
        if (!isBetween(kind, WARP_FLOATS, WEFT_FLOATS) || !isBetween(length, 1, MAX_ROWS)) {
            return INVALID_ARGUMENT;
        }
        int lines = kind == WARP_FLOATS ? now.warp.ends : now.cloth.rows;
        int places = kind == WARP_FLOATS ? now.cloth.rows : now.warp.ends;
        int found = 0;
        for (int line = 0; line < lines; line++) {
            found += now.cloth.floatsIn(kind, line, places, length);
        }
        return found;
    }

    public int repeat() {
        int rows = now.cloth.rows;
        if (rows == 0) {
            return NONE;
        }
        for (int distance = 1; distance < rows; distance++) {
            if (now.cloth.repeatsAfter(distance)) {
                return distance;
            }
        }
        return rows;
    }

    public int differentRows() {
        int different = 0;
        for (int row = 0; row < now.cloth.rows; row++) {
            if (!now.cloth.hasAlikeBefore(row)) {
                different++;
            }
        }
        return different;
    }

    // ---- forecasts, which change nothing

    public int picksLeft() {
        if (now.chain.bars == 0 || now.cloth.isStanding()) {
            return ILLEGAL_STATE;
        }
        readNeeds();
        yarnLeft.copyFrom(now.bobbins);
        int bar = now.chain.present;
        for (int pick = 0; pick < MAX_FORECAST; pick++) {
            int color = now.chain.colorOf.at(bar);
            int rest = yarnLeft.at(color) - needs.at(bar);
            if (rest < 0) {
                return pick;
            }
            yarnLeft.put(color, rest);
            bar = now.chain.barAfter(bar);
        }
        return MAX_FORECAST;
    }

    public int yarnFor(int color, int picks) {
        if (!isColor(color) || !isBetween(picks, 1, MAX_ROWS)) {
            return INVALID_ARGUMENT;
        }
        if (now.chain.bars == 0) {
            return ILLEGAL_STATE;
        }
        readNeeds();
        int sum = 0;
        int bar = now.chain.present;
        for (int pick = 0; pick < picks; pick++) {
            if (now.chain.colorOf.at(bar) == color) {
                sum += needs.at(bar);
            }
            bar = now.chain.barAfter(bar);
        }
        return sum;
    }

    // A forecast passes the same bars many times: each bar's need is found once.
    private void readNeeds() {
        for (int bar = 0; bar < now.chain.bars; bar++) {
            needs.put(bar, now.warp.yarnOfWholePick(now.chain.liftOf.at(bar)));
        }
    }

    private int seenColor(int row, int end, int side) {
        return side == 1 ? now.warp.colorOf.at(end) : now.cloth.colorOf.at(row);
    }

    private static boolean isBetween(int value, int least, int greatest) {
        return value >= least && value <= greatest;
    }

    private static boolean isColor(int color) {
        return isBetween(color, 0, COLORS - 1);
    }

    private static int bitOf(int set, int place) {
        return (set >>> place) & 1;
    }

    /** Numbers in a line. Every index is tested here, so that none can make the machine throw. */
    private static final class Numbers {
        private final int[] values;

        Numbers(int length) {
            values = new int[Math.max(length, 0)];
        }

        int at(int index) {
            return index >= 0 && index < values.length ? values[index] : 0;
        }

        void put(int index, int value) {
            if (index >= 0 && index < values.length) {
                values[index] = value;
            }
        }

        void putAll(int value) {
            for (int index = 0; index < values.length; index++) {
                values[index] = value;
            }
        }

        void copyFrom(Numbers other) {
            System.arraycopy(other.values, 0, values, 0, Math.min(values.length, other.values.length));
        }
    }

    /** The warp ends and the shafts. Sets of ends are bits: bit e for end e. */
    private static final class Warp {
        int shafts;
        int ends;
        final Numbers shaftOf = new Numbers(MAX_ENDS);
        final Numbers colorOf = new Numbers(MAX_ENDS);
        final Numbers faultOf = new Numbers(MAX_SHAFTS);

        void reset(int newShafts, int newEnds) {
            shafts = newShafts;
            ends = newEnds;
            colorOf.putAll(0);
            faultOf.putAll(0);
            int shaft = 0;
            for (int end = 0; end < MAX_ENDS; end++) {
                shaftOf.put(end, shaft);
                shaft = shaft + 1 < shafts ? shaft + 1 : 0;
            }
        }

        void copyFrom(Warp other) {
            shafts = other.shafts;
            ends = other.ends;
            shaftOf.copyFrom(other.shaftOf);
            colorOf.copyFrom(other.colorOf);
            faultOf.copyFrom(other.faultOf);
        }

        boolean hasEnd(int end) {
            return isBetween(end, 0, ends - 1);
        }

        boolean hasShaft(int shaft) {
            return isBetween(shaft, 0, shafts - 1);
        }

        boolean isLift(int lift) {
            return isBetween(lift, 0, (1 << shafts) - 1);
        }

        int allEnds() {
            // A shift by 32 would be one by 0 in Java.
            return ends >= 32 ? -1 : (1 << ends) - 1;
        }

        int liftedShafts(int lift) {
            int lifted = lift;
            for (int shaft = 0; shaft < shafts; shaft++) {
                int fault = faultOf.at(shaft);
                if (fault == STUCK_BELOW) {
                    lifted &= ~(1 << shaft);
                } else if (fault == STUCK_ABOVE) {
                    lifted |= 1 << shaft;
                }
            }
            return lifted;
        }

        int endsOn(int shaftSet) {
            int found = 0;
            for (int end = 0; end < ends; end++) {
                found |= bitOf(shaftSet, shaftOf.at(end)) << end;
            }
            return found;
        }

        int yarnOfWholePick(int lift) {
            int above = endsOn(liftedShafts(lift));
            int changes = (above ^ (above >>> 1)) & (allEnds() >>> 1);
            return ends + Integer.bitCount(changes);
        }
    }

    /** The bars and the place and direction of the chain. */
    private static final class Chain {
        int bars;
        int present;
        int backward;
        final Numbers liftOf = new Numbers(MAX_BARS);
        final Numbers colorOf = new Numbers(MAX_BARS);

        void removeBars() {
            bars = 0;
            present = 0;
        }

        void takeBarsOf(Chain other) {
            bars = other.bars;
            present = 0;
            liftOf.copyFrom(other.liftOf);
            colorOf.copyFrom(other.colorOf);
        }

        void copyFrom(Chain other) {
            takeBarsOf(other);
            present = other.present;
            backward = other.backward;
        }

        boolean hasBar(int bar) {
            return isBetween(bar, 0, bars - 1);
        }

        boolean isFull() {
            return bars >= MAX_BARS;
        }

        void addLast(int lift, int color) {
            if (!isFull()) {
                liftOf.put(bars, lift);
                colorOf.put(bars, color);
                bars++;
            }
        }

        /** Lets the bars from the first one on stand so many times; false, and nothing changed, without room. */
        boolean repeatFrom(int first, int times) {
            int past = bars;
            if (first + (past - first) * times > MAX_BARS) {
                return false;
            }
            for (int copy = 1; copy < times; copy++) {
                for (int bar = first; bar < past; bar++) {
                    addLast(liftOf.at(bar), colorOf.at(bar));
                }
            }
            return true;
        }

        int barAfter(int bar) {
            return backward == 1 ? barBelow(bar) : barAbove(bar);
        }

        int barBefore(int bar) {
            return backward == 1 ? barAbove(bar) : barBelow(bar);
        }

        private int barAbove(int bar) {
            return bar + 1 < bars ? bar + 1 : 0;
        }

        private int barBelow(int bar) {
            return bar > 0 ? bar - 1 : bars - 1;
        }
    }

    /** The rows. Sets of ends are bits: bit e for end e. */
    private static final class Cloth {
        int rows;
        final Numbers colorOf = new Numbers(MAX_ROWS);
        final Numbers barOf = new Numbers(MAX_ROWS);
        final Numbers usedOf = new Numbers(MAX_ROWS);
        final Numbers aboveOf = new Numbers(MAX_ROWS);
        final Numbers missingOf = new Numbers(MAX_ROWS);
        final Numbers planOf = new Numbers(MAX_ROWS);

        void copyFrom(Cloth other) {
            rows = other.rows;
            colorOf.copyFrom(other.colorOf);
            barOf.copyFrom(other.barOf);
            usedOf.copyFrom(other.usedOf);
            aboveOf.copyFrom(other.aboveOf);
            missingOf.copyFrom(other.missingOf);
            planOf.copyFrom(other.planOf);
        }

        boolean hasRow(int row) {
            return isBetween(row, 0, rows - 1);
        }

        boolean isFull() {
            return rows >= MAX_ROWS;
        }

        boolean isStanding() {
            return rows > 0 && missingOf.at(rows - 1) != 0;
        }

        int wrongEnds(int row) {
            return missingOf.at(row) | (aboveOf.at(row) ^ planOf.at(row));
        }

        int wrongPlaces() {
            int sum = 0;
            for (int row = 0; row < rows; row++) {
                sum += Integer.bitCount(wrongEnds(row));
            }
            return sum;
        }

        int rowsAbove(int end) {
            int sum = 0;
            for (int row = 0; row < rows; row++) {
                sum += bitOf(aboveOf.at(row), end);
            }
            return sum;
        }

        int rowsWrong(int end) {
            int sum = 0;
            for (int row = 0; row < rows; row++) {
                sum += bitOf(wrongEnds(row), end);
            }
            return sum;
        }

        int sideAt(int row, int end) {
            return bitOf(missingOf.at(row), end) == 1 ? NO_WEFT : bitOf(aboveOf.at(row), end);
        }

        // A line is what a float runs along: an end for warp floats, a row for weft floats.
        private int sideAlong(int kind, int line, int place) {
            return kind == WARP_FLOATS ? sideAt(place, line) : sideAt(line, place);
        }

        private int runWith(int side, int sideBefore, int runBefore) {
            if (side == NO_WEFT) {
                return 0;
            }
            return side == sideBefore ? runBefore + 1 : 1;
        }

        int longestFloat(int kind, int line, int places) {
            int longest = 0;
            int run = 0;
            int before = NO_WEFT;
            for (int place = 0; place < places; place++) {
                int side = sideAlong(kind, line, place);
                run = runWith(side, before, run);
                before = side;
                longest = Math.max(longest, run);
            }
            return longest;
        }

        int floatsIn(int kind, int line, int places, int length) {
            int found = 0;
            int run = 0;
            int before = NO_WEFT;
            for (int place = 0; place < places; place++) {
                int side = sideAlong(kind, line, place);
                run = runWith(side, before, run);
                before = side;
                // A float that is long enough has exactly one place where it becomes so.
                if (run == length) {
                    found++;
                }
            }
            return found;
        }

        private boolean areAlike(int row, int other) {
            return colorOf.at(row) == colorOf.at(other)
                && aboveOf.at(row) == aboveOf.at(other)
                && missingOf.at(row) == missingOf.at(other);
        }

        boolean repeatsAfter(int distance) {
            for (int row = distance; row < rows; row++) {
                if (!areAlike(row, row - distance)) {
                    return false;
                }
            }
            return true;
        }

        boolean hasAlikeBefore(int row) {
            for (int other = 0; other < row; other++) {
                if (areAlike(row, other)) {
                    return true;
                }
            }
            return false;
        }
    }

    /** Everything but the text and the history. */
    private static final class State {
        final Warp warp = new Warp();
        final Chain chain = new Chain();
        final Numbers bobbins = new Numbers(COLORS);
        final Cloth cloth = new Cloth();

        State() {
            reset(FIRST_SHAFTS, FIRST_ENDS);
        }

        void reset(int shafts, int ends) {
            warp.reset(shafts, ends);
            chain.removeBars();
            chain.backward = 0;
            bobbins.putAll(FIRST_YARN);
            cloth.rows = 0;
        }

        void copyFrom(State other) {
            warp.copyFrom(other.warp);
            chain.copyFrom(other.chain);
            bobbins.copyFrom(other.bobbins);
            cloth.copyFrom(other.cloth);
        }

        void makePick() {
            int row = cloth.rows;
            int color = chain.colorOf.at(chain.present);
            int lift = chain.liftOf.at(chain.present);
            cloth.colorOf.put(row, color);
            cloth.barOf.put(row, chain.present);
            cloth.planOf.put(row, warp.endsOn(lift));
            layWeft(row, warp.endsOn(warp.liftedShafts(lift)), bobbins.at(color));
            bobbins.put(color, bobbins.at(color) - cloth.usedOf.at(row));
            cloth.rows = row + 1;
            chain.present = chain.barAfter(chain.present);
        }

        private void layWeft(int row, int above, int onBobbin) {
            boolean fromLeft = (row & 1) == 0;
            int laid = 0;
            int used = 0;
            int sideBefore = NO_WEFT;
            for (int step = 0; step < warp.ends; step++) {
                int end = fromLeft ? step : warp.ends - 1 - step;
                int side = bitOf(above, end);
                int need = step == 0 || side == sideBefore ? 1 : 2;
                if (need > onBobbin - used) {
                    break;
                }
                used += need;
                laid |= 1 << end;
                sideBefore = side;
            }
            cloth.aboveOf.put(row, above & laid);
            cloth.missingOf.put(row, warp.allEnds() & ~laid);
            cloth.usedOf.put(row, used);
        }

        void takeOutLastRow() {
            int row = cloth.rows - 1;
            int color = cloth.colorOf.at(row);
            bobbins.put(color, bobbins.at(color) + cloth.usedOf.at(row));
            cloth.rows = row;
            chain.present = chain.barBefore(chain.present);
        }
    }

    /** The states before the latest actions, in a ring whose states are written over and over. */
    private static final class History {
        private final State[] ring = new State[MAX_HISTORY];
        private int next;
        int kept;

        History() {
            for (int place = 0; place < ring.length; place++) {
                ring[place] = new State();
            }
        }

        void keep(State state) {
            State slot = stateAt(next);
            if (slot != null) {
                slot.copyFrom(state);
                next = next + 1 < MAX_HISTORY ? next + 1 : 0;
                kept = Math.min(kept + 1, MAX_HISTORY);
            }
        }

        void restoreInto(State state) {
            int latest = next > 0 ? next - 1 : MAX_HISTORY - 1;
            State slot = stateAt(latest);
            if (slot != null && kept > 0) {
                state.copyFrom(slot);
                next = latest;
                kept--;
            }
        }

        private State stateAt(int place) {
            return place >= 0 && place < ring.length ? ring[place] : null;
        }
    }

    /** The text, and the reading of it as a chain: where reading fails, position is the error position. */
    private static final class ChainReader {
        private static final int TEXT_END = -1;
        private static final int NOT_IN_BRACKETS = 0;

        private final Numbers text = new Numbers(MAX_TEXT);
        final Chain chain = new Chain();
        int length;
        int position;
        private int shafts;
        private int times;
        private int firstInBrackets;

        boolean isFull() {
            return length >= MAX_TEXT;
        }

        void addLast(int character) {
            if (!isFull()) {
                text.put(length, character);
                length++;
            }
        }

        boolean readChain(int shaftsOfLoom) {
            shafts = shaftsOfLoom;
            position = 0;
            times = NOT_IN_BRACKETS;
            chain.removeBars();
            for (int bar = 0; bar < MAX_TEXT; bar++) {
                if (!openBrackets() || !readBar() || !closeBrackets()) {
                    return false;
                }
                if (!take(';')) {
                    return times == NOT_IN_BRACKETS && peek() == TEXT_END;
                }
            }
            return false;
        }

        /** True, too, where no brackets begin: they may, but need not, at the beginning of a part. */
        private boolean openBrackets() {
            if (times != NOT_IN_BRACKETS || !isNumberAhead()) {
                return true;
            }
            int number = peek() - '0';
            if (number < 2) {
                return false;
            }
            position++;
            times = number;
            firstInBrackets = chain.bars;
            return take('x') && take('(');
        }

        /** True, too, where no brackets end. */
        private boolean closeBrackets() {
            if (times == NOT_IN_BRACKETS || peek() != ')') {
                return true;
            }
            // The ")" is not taken before, for without room for the repetitions it is the error.
            if (!chain.repeatFrom(firstInBrackets, times)) {
                return false;
            }
            times = NOT_IN_BRACKETS;
            return take(')');
        }

        private boolean readBar() {
            boolean isEmptySet = peek() == '-';
            if (chain.isFull() || !isEmptySet && !isShaft(peek())) {
                return false;
            }
            int lift = 0;
            if (isEmptySet) {
                position++;
            } else {
                lift = readShafts();
            }
            int color = 0;
            if (take('c')) {
                if (!isDigit(peek())) {
                    return false;
                }
                color = peek() - '0';
                position++;
            }
            chain.addLast(lift, color);
            return true;
        }

        private int readShafts() {
            int lift = 0;
            int least = '0';
            while (position < length && isShaft(peek()) && peek() >= least) {
                lift |= 1 << (peek() - '0');
                least = peek() + 1;
                position++;
            }
            return lift;
        }

        private boolean isNumberAhead() {
            return isDigit(peek()) && characterAt(placeBehindSpaces(position + 1)) == 'x';
        }

        private boolean isDigit(int character) {
            return isBetween(character, '0', '9');
        }

        private boolean isShaft(int character) {
            return isBetween(character, '0', '0' + shafts - 1);
        }

        /** The next character that is no space; the position is its place then, so that an error stands there. */
        private int peek() {
            position = placeBehindSpaces(position);
            return characterAt(position);
        }

        private boolean take(int character) {
            if (peek() != character) {
                return false;
            }
            position++;
            return true;
        }

        private int placeBehindSpaces(int from) {
            int place = from;
            while (place < length && text.at(place) == ' ') {
                place++;
            }
            return place;
        }

        // Behind the length, characters of an earlier text still stand.
        private int characterAt(int place) {
            return place < length ? text.at(place) : TEXT_END;
        }
    }
}
