/**
 * A cloth knitted of one thread. Stitches are told by 8 y + x, so that a set of them is one long:
 * bit 8 y + x stands for the stitch, and a step of 8 bits is a step of one row. Sets of places of
 * the thread are longs too, bit k for place k. All rows are made with the object: no call makes any.
 */
public final class PulledJersey {
    public static final int NONE = -1;

    private static final int LEAST_SIDE = 2;
    private static final int MOST_SIDE = 6;
    private static final int SIDE_AT_FIRST = 4;
    private static final int NUMBERS = 48;
    private static final int MOST_STITCHES = 36;
    private static final int MOST_HOURS = 100;
    private static final int LAST_HOUR = 9999;
    private static final int MOST_CAUGHT = 3;
    private static final int MOST_LINES = 16;
    private static final int MOST_OPEN = 8;
    private static final int MOST_DIGITS = 4;
    private static final int TAPE_BYTES = 400;
    private static final int FED_BYTES = 20;
    private static final int BOOK_LINES = 100;
    private static final int MOST_LENGTHS = 20;
    private static final int STEPS_KEPT = 8;
    private static final int SURE = 1000;
    private static final int USUAL_ODDS = 500;
    private static final int MILLION = 1000000;

    private static final long EVEN_COLUMNS = 0x5555555555555555L;
    private static final int[] LENGTH_OF_KIND = {3, 4, 2, 5};

    private static final int TOLD = 0;
    private static final int RAN = 1;
    private static final int PULLED = 2;

    private static final int CANT_STAND = 1;
    private static final int PART_BY_ZERO = 2;
    private static final int TOO_MANY = 3;

    // A law's code: 0 and above is a number, what is below 0 does something. The keywords among
    // them are tokens by the same numbers; a sign's token is the sign itself.
    private static final int PLUS = -1;
    private static final int MINUS = -2;
    private static final int TIMES = -3;
    private static final int BY = -4;
    private static final int LESS = -5;
    private static final int SAME = -6;
    private static final int MORE = -7;
    private static final int AND = -8;
    private static final int OR = -9;
    private static final int NOT = -10;
    private static final int KIND = -11;
    private static final int ROW = -12;
    private static final int COLUMN = -13;
    private static final int BESIDE = -14;
    private static final int BELOW = -15;
    private static final int HOUR = -16;
    private static final int GONE = -17;
    private static final int RUN = -18;
    private static final int WHEN = -19;
    private static final int END_OF_TEXT = 0;
    private static final int NUMBER = 1;
    private static final int NO_TOKEN = 2;

    private final Whole now = new Whole();
    private final Whole kept = new Whole();
    private final Past past = new Past();
    private final Tape tape = new Tape();
    private final LawReader reader = new LawReader();
    private final Puller puller = new Puller();
    private final Saver saver = new Saver();
    private boolean isImageTaken;

    public PulledJersey() {
        now.begin(SIDE_AT_FIRST, SIDE_AT_FIRST);
    }

    public int state(int v) {
        int was = now.draws;
        now.draws = v;
        past.forget();
        return was;
    }

    public boolean cloth(int w, int h) {
        if (w < LEAST_SIDE || w > MOST_SIDE || h < LEAST_SIDE || h > MOST_SIDE) {
            return false;
        }
        now.begin(w, h);
        past.forget();
        return true;
    }

    public boolean set(int what, int stitch, int v) {
        boolean isTold = what == 2 ? now.fabric.tellBound(v) : tellOfStitch(what, stitch, v);
        if (isTold) {
            past.forget();
        }
        return isTold;
    }

    public boolean gone(int stitch) {
        if (!now.fabric.isHere(stitch)) {
            return false;
        }
        past.keep(now);
        now.letGo(stitch, TOLD);
        return true;
    }

    public boolean cut(int k) {
        if (!now.fabric.canCut(k)) {
            return false;
        }
        past.keep(now);
        now.fabric.cuts |= 1L << k;
        return true;
    }

    public int pull(int k, int way, int n) {
        if (n < 1 || n > MOST_STITCHES || !now.fabric.isEnd(k, way)) {
            return NONE;
        }
        past.keep(now);
        puller.walk(now.fabric, k, way, n);
        now.windUp(puller);
        return puller.count;
    }

    public int hours(int n) {
        if (n < 1 || n > MOST_HOURS || now.hour + n > LAST_HOUR) {
            return NONE;
        }
        int ran = 0;
        for (int i = 0; i < n; i++) {
            past.keep(now);
            ran += now.passHour();
        }
        return ran;
    }

    public int feed(int a, int b, int c, int d, int e) {
        if (!tape.hasRoom()) {
            return NONE;
        }
        tape.add(a);
        tape.add(b);
        tape.add(c);
        tape.add(d);
        tape.add(e);
        return tape.length;
    }

    public boolean end(int n) {
        if (n < 0 || n > tape.length) {
            return false;
        }
        tape.length = n;
        return true;
    }

    public int text() {
        boolean isRead = reader.read(tape, now.law);
        tape.length = 0;
        return isRead ? now.law.lines : NONE;
    }

    public int fault(int what) {
        if (what == 0) {
            return reader.fault;
        }
        return what == 1 ? reader.faultPlace : NONE;
    }

    public int of(int stitch, int what) {
        Fabric fabric = now.fabric;
        if (!fabric.has(stitch)) {
            return NONE;
        }
        switch (what) {
            case 0:
                return fabric.kindOf(stitch);
            case 1:
                return bitOf(fabric.here, stitch);
            case 2:
                return bitOf(fabric.caught, stitch);
            case 3:
                return bitOf(fabric.heldOf(fabric.here, fabric.caught), stitch);
            case 4:
                return fabric.placeOf(stitch);
            case 5:
                return bitOf(fabric.loose(), stitch) == 1 ? now.law.oddsOf(fabric, now.hour, stitch) : 0;
            case 6:
                return bitOf(fabric.wound, stitch);
            default:
                return NONE;
        }
    }

    public int at(int k, int what) {
        Fabric fabric = now.fabric;
        if (k < 0 || k >= fabric.places()) {
            return NONE;
        }
        switch (what) {
            case 0:
                return fabric.stitchAt(k);
            case 1:
                return bitOf(fabric.cuts, k);
            case 2:
                return fabric.isEnd(k, 0) ? 1 : 0;
            case 3:
                return fabric.isEnd(k, 1) ? 1 : 0;
            default:
                return NONE;
        }
    }

    public int wound(int i) {
        return now.wool.lengthOf(i);
    }

    public int book(int i, int what) {
        return now.book.read(i, what);
    }

    public int runs(int stitch, int what) {
        Fabric fabric = now.fabric;
        if (!fabric.isHere(stitch)) {
            return NONE;
        }
        long left = fabric.here & ~(1L << stitch);
        long more = left & ~fabric.inTheEnd(left, fabric.caught);
        if (what == 0) {
            return Long.bitCount(more);
        }
        // The least number of a set stands in its least row.
        return what == 1 && more != 0 ? numberIn(more, 0) >> 3 : NONE;
    }

    public int save(int n, int what) {
        if (n < 0 || n > MOST_CAUGHT || what < 0 || what > MOST_CAUGHT) {
            return NONE;
        }
        saver.search(now.fabric, n);
        return what == 0 ? saver.fewest : numberIn(saver.loops, what - 1);
    }

    public int comes(int k, int way, int what) {
        if (!now.fabric.isEnd(k, way)) {
            return NONE;
        }
        puller.walk(now.fabric, k, way, MOST_STITCHES);
        if (what == 0) {
            return puller.count;
        }
        return what == 1 ? puller.stop : NONE;
    }

    public int all(int what) {
        if (what < 0 || what > 1 || now.fabric.here == 0) {
            return NONE;
        }
        for (int k = 0; k < now.fabric.places(); k++) {
            for (int way = 0; way <= 1; way++) {
                if (undoesAll(k, way)) {
                    return what == 0 ? k : way;
                }
            }
        }
        return NONE;
    }

    public int part(int a, int b, int c, int d) {
        Fabric fabric = now.fabric;
        if (a < 0 || b < a || b >= fabric.w || c < 0 || d < c || d >= fabric.h) {
            return NONE;
        }
        return fabric.cutsAround(rectangle(a, b, c, d));
    }

    public int join(int v) {
        return v < 1 ? NONE : now.wool.fewestFor(v);
    }

    public int quiet() {
        return now.likelyQuiet();
    }

    public int first(int what) {
        if (what < 0 || what > 1) {
            return NONE;
        }
        long firsts = now.fabric.firsts();
        return what == 0 ? Long.bitCount(firsts) : numberIn(firsts, 0);
    }

    public boolean undo() {
        return past.goBack(now);
    }

    public boolean image(boolean taken) {
        if (taken) {
            kept.copyFrom(now);
            isImageTaken = true;
            return true;
        }
        if (!isImageTaken) {
            return false;
        }
        now.copyFrom(kept);
        past.forget();
        return true;
    }

    public int look(int what) {
        switch (what) {
            case 0:
                return now.fabric.w;
            case 1:
                return now.fabric.h;
            case 2:
                return now.fabric.isBound ? 1 : 0;
            case 3:
                return now.fabric.places() - Long.bitCount(now.fabric.here);
            case 4:
                return now.wool.count;
            case 5:
                return now.book.count;
            case 6:
                return now.hour;
            case 7:
                return now.draws;
            case 8:
                return Long.bitCount(now.fabric.cuts);
            case 9:
                return now.law.lines;
            case 10:
                return past.count;
            case 11:
                return now.wool.total();
            default:
                return NONE;
        }
    }

    private boolean tellOfStitch(int what, int stitch, int v) {
        if (!now.fabric.has(stitch)) {
            return false;
        }
        switch (what) {
            case 0:
                return now.fabric.tellKind(stitch, v);
            case 1:
                return now.fabric.tellCaught(stitch, v);
            case 3:
                now.fabric.bringBack(stitch);
                return true;
            default:
                return false;
        }
    }

    private boolean undoesAll(int k, int way) {
        if (!now.fabric.isEnd(k, way)) {
            return false;
        }
        puller.walk(now.fabric, k, way, MOST_STITCHES);
        return puller.here == 0;
    }

    private static int bitOf(long set, int i) {
        return (int) (set >>> i & 1L);
    }

    /** The number in the set that has just so many below it; NONE if there is none such. */
    private static int numberIn(long set, int below) {
        int seen = 0;
        for (int i = 0; i < NUMBERS; i++) {
            if (bitOf(set, i) == 1) {
                if (seen == below) {
                    return i;
                }
                seen++;
            }
        }
        return NONE;
    }

    private static long rectangle(int a, int b, int c, int d) {
        long row = (1L << b + 1) - (1L << a);
        long set = 0L;
        for (int y = c; y <= d && y < MOST_SIDE; y++) {
            set |= row << 8 * y;
        }
        return set;
    }

    /** The stitches, how each is drawn and what holds it, and the thread through them. */
    private static final class Fabric {
        int w;
        int h;
        boolean isBound;
        long whole;
        long kindLow;
        long kindHigh;
        long here;
        long caught;
        long wound;
        long cuts;

        void begin(int width, int height) {
            w = width;
            h = height;
            isBound = true;
            whole = rectangle(0, width - 1, 0, height - 1);
            kindLow = 0L;
            kindHigh = 0L;
            here = whole;
            caught = 0L;
            wound = 0L;
            cuts = 0L;
        }

        void copyFrom(Fabric other) {
            w = other.w;
            h = other.h;
            isBound = other.isBound;
            whole = other.whole;
            kindLow = other.kindLow;
            kindHigh = other.kindHigh;
            here = other.here;
            caught = other.caught;
            wound = other.wound;
            cuts = other.cuts;
        }

        boolean has(int stitch) {
            return stitch >= 0 && stitch < NUMBERS && bitOf(whole, stitch) == 1;
        }

        boolean isHere(int stitch) {
            return has(stitch) && bitOf(here, stitch) == 1;
        }

        int places() {
            return w * h;
        }

        int kindOf(int stitch) {
            return bitOf(kindLow, stitch) + 2 * bitOf(kindHigh, stitch);
        }

        boolean tellBound(int v) {
            if (v < 0 || v > 1) {
                return false;
            }
            isBound = v == 1;
            return true;
        }

        boolean tellKind(int stitch, int v) {
            if (v < 0 || v > 3) {
                return false;
            }
            long bit = 1L << stitch;
            kindLow = (v & 1) == 1 ? kindLow | bit : kindLow & ~bit;
            kindHigh = v >= 2 ? kindHigh | bit : kindHigh & ~bit;
            return true;
        }

        boolean tellCaught(int stitch, int v) {
            if (v < 0 || v > 1) {
                return false;
            }
            long bit = 1L << stitch;
            caught = v == 1 ? caught | bit : caught & ~bit;
            return true;
        }

        void bringBack(int stitch) {
            here |= 1L << stitch;
            wound &= ~(1L << stitch);
        }

        /** All loops that these stitches are drawn through: 8 bits down is the loop of its own x. */
        long loopsUnder(long stitches) {
            long withRight = whole & whole >>> 1;
            long doubled = stitches & kindLow & kindHigh;
            long crossed = stitches & kindLow & ~kindHigh;
            long plain = stitches & ~kindLow & ~kindHigh;
            long crossedRight = crossed & EVEN_COLUMNS & withRight;
            long crossedLeft = crossed & ~EVEN_COLUMNS;
            long own = plain | doubled | crossed & ~crossedRight & ~crossedLeft;
            long right = crossedRight | doubled & withRight;
            return own >>> 8 | right >>> 7 | crossedLeft >>> 9;
        }

        long heldOf(long standing, long catches) {
            long top = isBound ? whole & ~(whole >>> 8) : 0L;
            return standing & (catches | top | loopsUnder(standing));
        }

        long loose() {
            return here & ~heldOf(here, caught);
        }

        /** Loops let go only downwards, so that all has run when each row had its turn. */
        long inTheEnd(long standing, long catches) {
            long left = standing;
            for (int y = 0; y < h; y++) {
                long held = heldOf(left, catches);
                if (held == left) {
                    return left;
                }
                left = held;
            }
            return left;
        }

        long firsts() {
            long set = 0L;
            for (int s = 0; s < NUMBERS; s++) {
                long bit = 1L << s;
                if (has(s) && inTheEnd(whole & ~bit, caught) == here) {
                    set |= bit;
                }
            }
            return set;
        }

        int placeOf(int stitch) {
            int x = stitch & 7;
            int y = stitch >> 3;
            return y * w + ((y & 1) == 0 ? x : w - 1 - x);
        }

        int stitchAt(int k) {
            if (k < 0 || k >= places() || w < LEAST_SIDE) {
                return NONE;
            }
            int y = k / w;
            int x = k - y * w;
            return 8 * y + ((y & 1) == 0 ? x : w - 1 - x);
        }

        boolean canCut(int k) {
            return k >= 0 && k < places() - 1 && bitOf(cuts, k) == 0;
        }

        boolean isEnd(int k, int way) {
            if (k < 0 || k >= places()) {
                return false;
            }
            if (way == 1) {
                return k == 0 || bitOf(cuts, k - 1) == 1;
            }
            return way == 0 && (k == places() - 1 || bitOf(cuts, k) == 1);
        }

        boolean hasThreadBetween(int k, int next) {
            return k >= 0 && next >= 0 && k < places() && next < places()
                && bitOf(cuts, Math.min(k, next)) == 0;
        }

        int cutsAround(long inside) {
            int needed = 0;
            for (int k = 0; k + 1 < places(); k++) {
                int one = stitchAt(k);
                int next = stitchAt(k + 1);
                boolean hangs = hasThreadBetween(k, k + 1)
                    && bitOf(wound, one) == 0 && bitOf(wound, next) == 0;
                if (hangs && bitOf(inside, one) != bitOf(inside, next)) {
                    needed++;
                }
            }
            return needed;
        }

        /** Winds what of these is not wound yet: how long it is. */
        int wind(long stitches) {
            int length = 0;
            for (int s = 0; s < NUMBERS; s++) {
                if (bitOf(stitches & ~wound, s) == 1) {
                    length += LENGTH_OF_KIND[kindOf(s) & 3];
                }
            }
            wound |= stitches;
            return length;
        }

        int besideOf(int stitch) {
            int x = stitch & 7;
            int left = x > 0 ? bitOf(here, stitch - 1) : 0;
            int right = x + 1 < w ? bitOf(here, stitch + 1) : 0;
            return left + right;
        }

        int belowOf(int stitch) {
            return stitch < 8 ? 0 : bitOf(here, stitch - 8);
        }

        int goneInColumn(int x) {
            long column = rectangle(x, x, 0, h - 1);
            return Long.bitCount(column & ~here);
        }
    }

    /** A pull, tried on a set of its own: the fabric does not change by it. */
    private static final class Puller {
        final int[] order = new int[MOST_STITCHES];
        int count;
        int stop;
        long here;
        long touched;

        void walk(Fabric fabric, int k, int way, int most) {
            count = 0;
            stop = NONE;
            here = fabric.here;
            touched = 0L;
            int place = k;
            for (int i = 0; i < MOST_STITCHES && count < most; i++) {
                int stitch = fabric.stitchAt(place);
                if (!comesUndone(fabric, stitch)) {
                    stop = place;
                    return;
                }
                touched |= 1L << stitch;
                int next = way == 1 ? place + 1 : place - 1;
                if (!fabric.hasThreadBetween(place, next)) {
                    return;
                }
                place = next;
            }
        }

        /** Whether the pull goes on behind it: it was gone, or goes now. */
        private boolean comesUndone(Fabric fabric, int stitch) {
            if (bitOf(here, stitch) == 0) {
                return true;
            }
            if (bitOf(fabric.heldOf(here, fabric.caught), stitch) == 1 || count >= order.length) {
                return false;
            }
            here &= ~(1L << stitch);
            order[count] = stitch;
            count++;
            return true;
        }
    }

    /** Looks for the loops to catch so that least runs. */
    private static final class Saver {
        int fewest;
        long loops;

        void search(Fabric fabric, int n) {
            long free = fabric.here & ~fabric.caught;
            fewest = MOST_STITCHES + 1;
            loops = 0L;
            choose(fabric, free, Math.min(n, Long.bitCount(free)), 0L, goingWith(fabric, 0L));
        }

        private static long goingWith(Fabric fabric, long chosen) {
            return fabric.here & ~fabric.inTheEnd(fabric.here, fabric.caught | chosen);
        }

        /** Sets come by their numbers, so that the first of the best is kept; none is below 0. */
        private void choose(Fabric fabric, long free, int left, long chosen, long going) {
            if (left <= 0) {
                if (Long.bitCount(going) < fewest) {
                    fewest = Long.bitCount(going);
                    loops = chosen;
                }
                return;
            }
            for (int s = 0; s < NUMBERS && fewest > 0; s++) {
                long bit = 1L << s;
                if ((free & bit) != 0) {
                    // To catch what stays anyway changes nothing.
                    long then = (going & bit) == 0 ? going : goingWith(fabric, chosen | bit);
                    long above = free & ~((bit << 1) - 1);
                    choose(fabric, above, left - 1, chosen | bit, then);
                }
            }
        }
    }

    /** The law in the order in which it is reckoned: each number or deed behind what it needs. */
    private static final class Law {
        final int[] code = new int[TAPE_BYTES];
        final int[] stack = new int[64];
        int length;
        int lines;
        int height;

        void clear() {
            length = 0;
            lines = 0;
        }

        void take(int[] from, int many, int manyLines) {
            length = Math.max(0, Math.min(many, Math.min(code.length, from.length)));
            System.arraycopy(from, 0, code, 0, length);
            lines = manyLines;
        }

        int oddsOf(Fabric fabric, int hour, int stitch) {
            height = 0;
            for (int i = 0; i < length && i < code.length; i++) {
                int deed = code[i];
                if (deed == RUN) {
                    return heldToOdds(pop());
                }
                if (deed == WHEN) {
                    boolean isSo = pop() != 0;
                    int odds = pop();
                    if (isSo) {
                        return heldToOdds(odds);
                    }
                } else {
                    reckon(deed, fabric, hour, stitch);
                }
            }
            return USUAL_ODDS;
        }

        private void reckon(int deed, Fabric fabric, int hour, int stitch) {
            if (deed >= 0) {
                push(deed);
            } else if (deed <= KIND) {
                push(traitOf(deed, fabric, hour, stitch));
            } else if (deed == NOT) {
                push(pop() == 0 ? 1 : 0);
            } else {
                int right = pop();
                int left = pop();
                push(ofTwo(deed, left, right));
            }
        }

        private static int traitOf(int trait, Fabric fabric, int hour, int stitch) {
            switch (trait) {
                case KIND:
                    return fabric.kindOf(stitch);
                case ROW:
                    return stitch >> 3;
                case COLUMN:
                    return stitch & 7;
                case BESIDE:
                    return fabric.besideOf(stitch);
                case BELOW:
                    return fabric.belowOf(stitch);
                case HOUR:
                    return hour;
                default:
                    return fabric.goneInColumn(stitch & 7);
            }
        }

        private static int ofTwo(int deed, int left, int right) {
            switch (deed) {
                case PLUS:
                    return left + right;
                case MINUS:
                    return left - right;
                case TIMES:
                    return left * right;
                case BY:
                    return right == 0 ? 0 : left / right;
                case LESS:
                    return left < right ? 1 : 0;
                case SAME:
                    return left == right ? 1 : 0;
                case MORE:
                    return left > right ? 1 : 0;
                case AND:
                    return left & right;
                default:
                    return left | right;
            }
        }

        private static int heldToOdds(int v) {
            return Math.max(0, Math.min(SURE, v));
        }

        private void push(int v) {
            if (height >= 0 && height < stack.length) {
                stack[height] = v;
                height++;
            }
        }

        private int pop() {
            if (height <= 0 || height > stack.length) {
                return 0;
            }
            height--;
            return stack[height];
        }
    }

    /** Reads a text as a law: first all tokens, then the lines; the first fault ends it. */
    private static final class LawReader {
        final int[] tokens = new int[TAPE_BYTES + 1];
        final int[] places = new int[TAPE_BYTES + 1];
        final int[] values = new int[TAPE_BYTES + 1];
        final int[] code = new int[TAPE_BYTES];
        int tokenCount;
        int next;
        int codeLength;
        int lines;
        int fault;
        int faultPlace = NONE;

        /** The law changes only if there is no fault. */
        boolean read(Tape tape, Law law) {
            fault = 0;
            faultPlace = NONE;
            next = 0;
            codeLength = 0;
            lines = 0;
            scan(tape);
            for (int i = 0; i <= MOST_LINES && token() != END_OF_TEXT; i++) {
                if (!readLine()) {
                    return false;
                }
            }
            law.take(code, codeLength, lines);
            return true;
        }

        /** Stops behind what is no token: the lines are never read beyond it. */
        private void scan(Tape tape) {
            tokenCount = 0;
            int from = 0;
            int last = NUMBER;
            for (int i = 0; i <= TAPE_BYTES && last != END_OF_TEXT && last != NO_TOKEN; i++) {
                from = tape.behindBlanks(from);
                int to = tape.behindToken(from);
                last = tokenOf(tape, from, to);
                if (tokenCount < tokens.length) {
                    tokens[tokenCount] = last;
                    places[tokenCount] = from;
                    values[tokenCount] = last == NUMBER ? tape.numberAt(from, to) : 0;
                    tokenCount++;
                }
                from = to;
            }
        }

        private static int tokenOf(Tape tape, int from, int to) {
            int sign = tape.signAt(from);
            if (sign == NONE) {
                return END_OF_TEXT;
            }
            if (Tape.isLetter(sign)) {
                return wordOf(tape, from, to);
            }
            if (Tape.isDigit(sign)) {
                return to - from <= MOST_DIGITS ? NUMBER : NO_TOKEN;
            }
            switch (sign) {
                case ';':
                case '+':
                case '-':
                case '*':
                case '/':
                case '(':
                case ')':
                case '<':
                case '=':
                case '>':
                    return sign;
                default:
                    return NO_TOKEN;
            }
        }

        private static int wordOf(Tape tape, int from, int to) {
            if (tape.spells("run", from, to)) {
                return RUN;
            }
            if (tape.spells("when", from, to)) {
                return WHEN;
            }
            if (tape.spells("or", from, to)) {
                return OR;
            }
            if (tape.spells("and", from, to)) {
                return AND;
            }
            if (tape.spells("not", from, to)) {
                return NOT;
            }
            return traitWordOf(tape, from, to);
        }

        private static int traitWordOf(Tape tape, int from, int to) {
            if (tape.spells("kind", from, to)) {
                return KIND;
            }
            if (tape.spells("row", from, to)) {
                return ROW;
            }
            if (tape.spells("column", from, to)) {
                return COLUMN;
            }
            if (tape.spells("beside", from, to)) {
                return BESIDE;
            }
            if (tape.spells("below", from, to)) {
                return BELOW;
            }
            if (tape.spells("hour", from, to)) {
                return HOUR;
            }
            return tape.spells("gone", from, to) ? GONE : NO_TOKEN;
        }

        private int token() {
            return next >= 0 && next < tokenCount && next < tokens.length ? tokens[next] : END_OF_TEXT;
        }

        private int value() {
            return next >= 0 && next < tokenCount && next < values.length ? values[next] : 0;
        }

        private boolean fails(int which) {
            fault = which;
            faultPlace = next >= 0 && next < places.length ? places[next] : NONE;
            return false;
        }

        private void emit(int deed) {
            if (codeLength >= 0 && codeLength < code.length) {
                code[codeLength] = deed;
                codeLength++;
            }
        }

        private boolean readLine() {
            if (token() != RUN) {
                return fails(CANT_STAND);
            }
            if (lines >= MOST_LINES) {
                return fails(TOO_MANY);
            }
            next++;
            lines++;
            if (!readSum()) {
                return false;
            }
            int deed = RUN;
            if (token() == WHEN) {
                deed = WHEN;
                next++;
                if (!readCondition(0)) {
                    return false;
                }
            }
            emit(deed);
            return readSign(';');
        }

        private boolean readSign(int sign) {
            if (token() != sign) {
                return fails(CANT_STAND);
            }
            next++;
            return true;
        }

        /** Each or waits until the ands behind it are reckoned. */
        private boolean readCondition(int open) {
            if (!readClause(open)) {
                return false;
            }
            boolean doesOrWait = false;
            for (int i = 0; i <= TAPE_BYTES && (token() == AND || token() == OR); i++) {
                int deed = token();
                next++;
                if (deed == OR && doesOrWait) {
                    emit(OR);
                }
                doesOrWait |= deed == OR;
                if (!readClause(open)) {
                    return false;
                }
                if (deed == AND) {
                    emit(AND);
                }
            }
            if (doesOrWait) {
                emit(OR);
            }
            return true;
        }

        /** The depth is told by how many ( and not are open. */
        private boolean readClause(int open) {
            int opener = token();
            if (opener == '(' || opener == NOT) {
                if (open >= MOST_OPEN) {
                    return fails(TOO_MANY);
                }
                next++;
                if (opener == '(') {
                    return readCondition(open + 1) && readSign(')');
                }
                if (!readClause(open + 1)) {
                    return false;
                }
                emit(NOT);
                return true;
            }
            if (!readSum()) {
                return false;
            }
            int sign = token();
            if (sign != '<' && sign != '=' && sign != '>') {
                return fails(CANT_STAND);
            }
            next++;
            if (!readSum()) {
                return false;
            }
            emit(sign == '<' ? LESS : sign == '=' ? SAME : MORE);
            return true;
        }

        /** Each + or - waits until the * and / behind it are reckoned. */
        private boolean readSum() {
            if (!readUnit()) {
                return false;
            }
            int waiting = 0;
            for (int i = 0; i <= TAPE_BYTES; i++) {
                int sign = token();
                if (sign != '+' && sign != '-' && sign != '*' && sign != '/') {
                    break;
                }
                next++;
                if ((sign == '+' || sign == '-') && waiting != 0) {
                    emit(waiting);
                }
                if (!(sign == '/' ? readDivisor() : readUnit())) {
                    return false;
                }
                if (sign == '*' || sign == '/') {
                    emit(sign == '*' ? TIMES : BY);
                } else {
                    waiting = sign == '+' ? PLUS : MINUS;
                }
            }
            if (waiting != 0) {
                emit(waiting);
            }
            return true;
        }

        private boolean readUnit() {
            int unit = token();
            if (unit == NUMBER) {
                emit(value());
            } else if (unit <= KIND && unit >= GONE) {
                emit(unit);
            } else {
                return fails(CANT_STAND);
            }
            next++;
            return true;
        }

        private boolean readDivisor() {
            if (token() != NUMBER) {
                return fails(CANT_STAND);
            }
            if (value() == 0) {
                return fails(PART_BY_ZERO);
            }
            emit(value());
            next++;
            return true;
        }
    }

    /** The bytes that were fed and not read yet. */
    private static final class Tape {
        final byte[] bytes = new byte[TAPE_BYTES];
        int length;

        boolean hasRoom() {
            return length + FED_BYTES <= TAPE_BYTES;
        }

        void add(int number) {
            for (int shift = 24; shift >= 0; shift -= 8) {
                if (length >= 0 && length < bytes.length) {
                    bytes[length] = (byte) (number >>> shift);
                    length++;
                }
            }
        }

        int signAt(int i) {
            return i >= 0 && i < length && i < bytes.length ? bytes[i] & 255 : NONE;
        }

        static boolean isLetter(int sign) {
            return sign >= 'a' && sign <= 'z' || sign >= 'A' && sign <= 'Z';
        }

        static boolean isDigit(int sign) {
            return sign >= '0' && sign <= '9';
        }

        int behindBlanks(int from) {
            int i = from;
            while (i < length && (signAt(i) == 32 || signAt(i) == 10)) {
                i++;
            }
            return i;
        }

        /** Letters and digits stand together, each with their like; another sign stands alone. */
        int behindToken(int from) {
            boolean isWord = isLetter(signAt(from));
            if (!isWord && !isDigit(signAt(from))) {
                return from + 1;
            }
            int i = from;
            while (i < length && (isWord ? isLetter(signAt(i)) : isDigit(signAt(i)))) {
                i++;
            }
            return i;
        }

        boolean spells(String word, int from, int to) {
            if (to - from != word.length()) {
                return false;
            }
            for (int i = 0; i < word.length(); i++) {
                if (signAt(from + i) != word.charAt(i)) {
                    return false;
                }
            }
            return true;
        }

        int numberAt(int from, int to) {
            int number = 0;
            for (int i = from; i < to; i++) {
                number = 10 * number + signAt(i) - '0';
            }
            return number;
        }
    }

    /** Each stitch that went: its hour, its number, how. */
    private static final class Book {
        final int[] hours = new int[BOOK_LINES];
        final int[] stitches = new int[BOOK_LINES];
        final int[] ways = new int[BOOK_LINES];
        int count;

        void copyFrom(Book other) {
            System.arraycopy(other.hours, 0, hours, 0, BOOK_LINES);
            System.arraycopy(other.stitches, 0, stitches, 0, BOOK_LINES);
            System.arraycopy(other.ways, 0, ways, 0, BOOK_LINES);
            count = other.count;
        }

        void note(int hour, int stitch, int way) {
            if (count < 0 || count >= BOOK_LINES) {
                return;
            }
            hours[count] = hour;
            stitches[count] = stitch;
            ways[count] = way;
            count++;
        }

        int read(int i, int what) {
            if (i < 0 || i >= count || i >= BOOK_LINES) {
                return NONE;
            }
            switch (what) {
                case 0:
                    return hours[i];
                case 1:
                    return stitches[i];
                case 2:
                    return ways[i];
                default:
                    return NONE;
            }
        }
    }

    /** The lengths that were wound. */
    private static final class Wool {
        final int[] lengths = new int[MOST_LENGTHS];
        int count;

        void copyFrom(Wool other) {
            System.arraycopy(other.lengths, 0, lengths, 0, MOST_LENGTHS);
            count = other.count;
        }

        void note(int length) {
            if (count >= 0 && count < MOST_LENGTHS) {
                lengths[count] = length;
                count++;
            }
        }

        int lengthOf(int i) {
            return i >= 0 && i < count && i < MOST_LENGTHS ? lengths[i] : NONE;
        }

        int total() {
            int sum = 0;
            for (int i = 0; i < count; i++) {
                sum += lengthOf(i);
            }
            return sum;
        }

        /** The longest first: no other choice gets as far with as few. */
        int fewestFor(int v) {
            int used = 0;
            int sum = 0;
            for (int taken = 1; taken <= count; taken++) {
                int longest = longestBut(used);
                used |= 1 << longest;
                sum += lengthOf(longest);
                if (sum >= v) {
                    return taken;
                }
            }
            return NONE;
        }

        private int longestBut(int used) {
            int longest = 0;
            int most = 0;
            for (int i = 0; i < count; i++) {
                if ((used >>> i & 1) == 0 && lengthOf(i) > most) {
                    longest = i;
                    most = lengthOf(i);
                }
            }
            return longest;
        }
    }

    /** All that is and was told, but the tape and what can be undone: this is what an image holds. */
    private static final class Whole {
        final Fabric fabric = new Fabric();
        final Law law = new Law();
        final Book book = new Book();
        final Wool wool = new Wool();
        int hour;
        int draws;

        void begin(int w, int h) {
            fabric.begin(w, h);
            law.clear();
            book.count = 0;
            wool.count = 0;
            hour = 0;
        }

        void copyFrom(Whole other) {
            fabric.copyFrom(other.fabric);
            law.take(other.law.code, other.law.length, other.law.lines);
            book.copyFrom(other.book);
            wool.copyFrom(other.wool);
            hour = other.hour;
            draws = other.draws;
        }

        void letGo(int stitch, int how) {
            fabric.here &= ~(1L << stitch);
            book.note(hour, stitch, how);
        }

        void windUp(Puller puller) {
            for (int i = 0; i < puller.count && i < puller.order.length; i++) {
                letGo(puller.order[i], PULLED);
            }
            if (puller.count > 0) {
                wool.note(fabric.wind(puller.touched));
            }
        }

        private int draw(int m) {
            draws = 1664525 * draws + 1013904223;
            return m > 0 ? (draws >>> 8) % m : 0;
        }

        /** All draws stand ahead of all goings, so that none alters the odds of another. */
        int passHour() {
            long loose = fabric.loose();
            long going = 0L;
            for (int s = 0; s < NUMBERS; s++) {
                if (bitOf(loose, s) == 1) {
                    int odds = law.oddsOf(fabric, hour, s);
                    if (odds > 0 && draw(SURE) < odds) {
                        going |= 1L << s;
                    }
                }
            }
            for (int s = 0; s < NUMBERS; s++) {
                if (bitOf(going, s) == 1) {
                    letGo(s, RAN);
                }
            }
            hour++;
            return Long.bitCount(going);
        }

        int likelyQuiet() {
            long loose = fabric.loose();
            int likely = MILLION;
            for (int s = 0; s < NUMBERS; s++) {
                if (bitOf(loose, s) == 1) {
                    likely = likely * (SURE - law.oddsOf(fabric, hour, s)) / SURE;
                }
            }
            return likely;
        }
    }

    /**
     * What stood ahead of the latest steps, in a ring. Lines of the book and lengths are only ever
     * added by a step, so that their counts are enough to go back.
     */
    private static final class Past {
        final long[] here = new long[STEPS_KEPT];
        final long[] wound = new long[STEPS_KEPT];
        final long[] cuts = new long[STEPS_KEPT];
        final int[] hour = new int[STEPS_KEPT];
        final int[] draws = new int[STEPS_KEPT];
        final int[] lines = new int[STEPS_KEPT];
        final int[] lengths = new int[STEPS_KEPT];
        int count;
        int nextSlot;

        void forget() {
            count = 0;
        }

        void keep(Whole whole) {
            int slot = nextSlot & STEPS_KEPT - 1;
            here[slot] = whole.fabric.here;
            wound[slot] = whole.fabric.wound;
            cuts[slot] = whole.fabric.cuts;
            hour[slot] = whole.hour;
            draws[slot] = whole.draws;
            lines[slot] = whole.book.count;
            lengths[slot] = whole.wool.count;
            nextSlot = slot + 1 & STEPS_KEPT - 1;
            count = Math.min(count + 1, STEPS_KEPT);
        }

        boolean goBack(Whole whole) {
            if (count <= 0) {
                return false;
            }
            int slot = nextSlot - 1 & STEPS_KEPT - 1;
            whole.fabric.here = here[slot];
            whole.fabric.wound = wound[slot];
            whole.fabric.cuts = cuts[slot];
            whole.hour = hour[slot];
            whole.draws = draws[slot];
            whole.book.count = lines[slot];
            whole.wool.count = lengths[slot];
            nextSlot = slot;
            count--;
            return true;
        }
    }
}
