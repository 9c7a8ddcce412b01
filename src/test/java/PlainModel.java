import java.util.ArrayDeque;
import java.util.ArrayList;
import java.util.List;

/**
 * The document over again in its plainest words, stitch by stitch and by its own names, to hold the
 * class against. It shares nothing with the class: rows of booleans, trees of the law, deep copies.
 */
final class PlainModel {
    static final int NONE = -1;

    static final class Going {
        final int hour;
        final int stitch;
        final int how;

        Going(int hour, int stitch, int how) {
            this.hour = hour;
            this.stitch = stitch;
            this.how = how;
        }
    }

    /** All that goes back by an undo, or by an image. */
    static final class Kept {
        int w;
        int h;
        int[][] kind;
        boolean[][] here;
        boolean[][] caught;
        boolean[][] wound;
        boolean bound;
        boolean[] cut;
        int hour;
        int state;
        List<Going> book = new ArrayList<>();
        List<Integer> lengths = new ArrayList<>();
        PlainLaw law = new PlainLaw();

        static boolean[][] copy(boolean[][] of) {
            boolean[][] other = new boolean[of.length][];
            for (int i = 0; i < of.length; i++) {
                other[i] = of[i].clone();
            }
            return other;
        }

        Kept copy() {
            Kept other = new Kept();
            other.w = w;
            other.h = h;
            other.kind = new int[h][];
            for (int y = 0; y < h; y++) {
                other.kind[y] = kind[y].clone();
            }
            other.here = copy(here);
            other.caught = copy(caught);
            other.wound = copy(wound);
            other.bound = bound;
            other.cut = cut.clone();
            other.hour = hour;
            other.state = state;
            other.book = new ArrayList<>(book);
            other.lengths = new ArrayList<>(lengths);
            other.law = law;
            return other;
        }
    }

    private Kept now = new Kept();
    private Kept image;
    private final ArrayDeque<Kept> past = new ArrayDeque<>();
    private final StringBuilder tape = new StringBuilder();
    private int fault = 0;
    private int faultPlace = NONE;

    PlainModel() {
        fresh(4, 4);
    }

    private void fresh(int w, int h) {
        int state = now.state;
        now = new Kept();
        now.state = state;
        now.w = w;
        now.h = h;
        now.kind = new int[h][w];
        now.here = new boolean[h][w];
        now.caught = new boolean[h][w];
        now.wound = new boolean[h][w];
        now.bound = true;
        now.cut = new boolean[w * h];
        for (boolean[] row : now.here) {
            java.util.Arrays.fill(row, true);
        }
    }

    private boolean isStitch(int s) {
        return s >= 0 && s % 8 < now.w && s / 8 < now.h;
    }

    private void remember() {
        past.addLast(now.copy());
        if (past.size() > 8) {
            past.removeFirst();
        }
    }

    int state(int v) {
        int was = now.state;
        now.state = v;
        past.clear();
        return was;
    }

    boolean cloth(int w, int h) {
        if (w < 2 || w > 6 || h < 2 || h > 6) {
            return false;
        }
        fresh(w, h);
        past.clear();
        return true;
    }

    boolean set(int what, int s, int v) {
        if (what == 2) {
            if (v != 0 && v != 1) {
                return false;
            }
            now.bound = v == 1;
        } else {
            if (!isStitch(s)) {
                return false;
            }
            int y = s / 8;
            int x = s % 8;
            if (what == 0 && v >= 0 && v <= 3) {
                now.kind[y][x] = v;
            } else if (what == 1 && (v == 0 || v == 1)) {
                now.caught[y][x] = v == 1;
            } else if (what == 3) {
                now.here[y][x] = true;
                now.wound[y][x] = false;
            } else {
                return false;
            }
        }
        past.clear();
        return true;
    }

    private List<Integer> drawnThrough(int x, int y) {
        List<Integer> loops = new ArrayList<>();
        if (y == 0) {
            return loops;
        }
        switch (now.kind[y][x]) {
            case 0:
                loops.add(x);
                break;
            case 1:
                int other = x % 2 == 0 ? x + 1 : x - 1;
                loops.add(other < now.w ? other : x);
                break;
            case 3:
                loops.add(x);
                if (x + 1 < now.w) {
                    loops.add(x + 1);
                }
                break;
            default:
                break;
        }
        return loops;
    }

    private boolean held(boolean[][] here, boolean[][] caught, int x, int y) {
        if (!here[y][x]) {
            return false;
        }
        if (caught[y][x] || now.bound && y == now.h - 1) {
            return true;
        }
        if (y + 1 < now.h) {
            for (int above = 0; above < now.w; above++) {
                if (here[y + 1][above] && drawnThrough(above, y + 1).contains(x)) {
                    return true;
                }
            }
        }
        return false;
    }

    private boolean held(int x, int y) {
        return held(now.here, now.caught, x, y);
    }

    private boolean loose(int x, int y) {
        return now.here[y][x] && !held(x, y);
    }

    /** Lets loose ones go one by one until there is none. */
    private void runOut(boolean[][] here, boolean[][] caught) {
        boolean any = true;
        while (any) {
            any = false;
            for (int y = 0; y < now.h; y++) {
                for (int x = 0; x < now.w; x++) {
                    if (here[y][x] && !held(here, caught, x, y)) {
                        here[y][x] = false;
                        any = true;
                    }
                }
            }
        }
    }

    private static int count(boolean[][] of) {
        int many = 0;
        for (boolean[] row : of) {
            for (boolean one : row) {
                many += one ? 1 : 0;
            }
        }
        return many;
    }

    private void goes(int s, int how) {
        now.here[s / 8][s % 8] = false;
        if (now.book.size() < 100) {
            now.book.add(new Going(now.hour, s, how));
        }
    }

    boolean gone(int s) {
        if (!isStitch(s) || !now.here[s / 8][s % 8]) {
            return false;
        }
        remember();
        goes(s, 0);
        return true;
    }

    private int stitchOf(int k) {
        int y = k / now.w;
        int x = k % now.w;
        return 8 * y + (y % 2 == 0 ? x : now.w - 1 - x);
    }

    private int last() {
        return now.w * now.h - 1;
    }

    private boolean isEnd(int k, int way) {
        if (k < 0 || k > last()) {
            return false;
        }
        if (way == 0) {
            return k == last() || now.cut[k];
        }
        return way == 1 && (k == 0 || now.cut[k - 1]);
    }

    boolean cut(int k) {
        if (k < 0 || k >= last() || now.cut[k]) {
            return false;
        }
        remember();
        now.cut[k] = true;
        return true;
    }

    /** Pulls for good: how many came undone, and the place ahead of which it stopped. */
    private int[] pulled(int k, int way, int n) {
        int undone = 0;
        int stop = NONE;
        List<Integer> touched = new ArrayList<>();
        int place = k;
        while (undone < n) {
            int s = stitchOf(place);
            if (now.here[s / 8][s % 8]) {
                if (held(s % 8, s / 8)) {
                    stop = place;
                    break;
                }
                goes(s, 2);
                undone++;
            }
            touched.add(s);
            if (isEnd(place, 1 - way)) {
                break;
            }
            place += way == 1 ? 1 : -1;
        }
        if (undone > 0) {
            wind(touched);
        }
        return new int[] {undone, stop};
    }

    private void wind(List<Integer> touched) {
        int length = 0;
        for (int s : touched) {
            if (!now.wound[s / 8][s % 8]) {
                now.wound[s / 8][s % 8] = true;
                int kind = now.kind[s / 8][s % 8];
                length += kind == 0 ? 3 : kind == 1 ? 4 : kind == 2 ? 2 : 5;
            }
        }
        if (now.lengths.size() < 20) {
            now.lengths.add(length);
        }
    }

    int pull(int k, int way, int n) {
        if (n < 1 || n > 36 || !isEnd(k, way)) {
            return NONE;
        }
        remember();
        return pulled(k, way, n)[0];
    }

    private int odds(int s) {
        int x = s % 8;
        int y = s / 8;
        int beside = (x > 0 && now.here[y][x - 1] ? 1 : 0) + (x + 1 < now.w && now.here[y][x + 1] ? 1 : 0);
        int below = y > 0 && now.here[y - 1][x] ? 1 : 0;
        int gone = 0;
        for (int r = 0; r < now.h; r++) {
            gone += now.here[r][x] ? 0 : 1;
        }
        return now.law.odds(new int[] {now.kind[y][x], y, x, beside, below, now.hour, gone});
    }

    int hours(int n) {
        if (n < 1 || n > 100 || now.hour + n > 9999) {
            return NONE;
        }
        int ran = 0;
        for (int i = 0; i < n; i++) {
            remember();
            List<Integer> going = new ArrayList<>();
            for (int s = 0; s < 48; s++) {
                if (isStitch(s) && loose(s % 8, s / 8)) {
                    int odds = odds(s);
                    if (odds > 0) {
                        now.state = 1664525 * now.state + 1013904223;
                        long highest = (now.state & 0xFFFFFFFFL) / 256;
                        if (highest % 1000 < odds) {
                            going.add(s);
                        }
                    }
                }
            }
            for (int s : going) {
                goes(s, 1);
            }
            ran += going.size();
            now.hour++;
        }
        return ran;
    }

    int feed(int a, int b, int c, int d, int e) {
        if (tape.length() + 20 > 400) {
            return NONE;
        }
        for (int v : new int[] {a, b, c, d, e}) {
            for (byte one : java.nio.ByteBuffer.allocate(4).putInt(v).array()) {
                tape.append((char) (one & 255));
            }
        }
        return tape.length();
    }

    boolean end(int n) {
        if (n < 0 || n > tape.length()) {
            return false;
        }
        tape.setLength(n);
        return true;
    }

    int text() {
        PlainLaw law = new PlainLaw();
        fault = 0;
        faultPlace = NONE;
        try {
            law.read(tape.toString());
            now.law = law;
        } catch (PlainLaw.Fault f) {
            fault = f.which;
            faultPlace = f.place;
        }
        tape.setLength(0);
        // A text is not undone: what is kept takes the new law, too.
        for (Kept kept : past) {
            kept.law = now.law;
        }
        return fault == 0 ? law.lines() : NONE;
    }

    int fault(int what) {
        return what == 0 ? fault : what == 1 ? faultPlace : NONE;
    }

    int of(int s, int what) {
        if (!isStitch(s)) {
            return NONE;
        }
        int x = s % 8;
        int y = s / 8;
        switch (what) {
            case 0:
                return now.kind[y][x];
            case 1:
                return now.here[y][x] ? 1 : 0;
            case 2:
                return now.caught[y][x] ? 1 : 0;
            case 3:
                return held(x, y) ? 1 : 0;
            case 4:
                for (int k = 0; k <= last(); k++) {
                    if (stitchOf(k) == s) {
                        return k;
                    }
                }
                return NONE;
            case 5:
                return loose(x, y) ? odds(s) : 0;
            case 6:
                return now.wound[y][x] ? 1 : 0;
            default:
                return NONE;
        }
    }

    int at(int k, int what) {
        if (k < 0 || k > last() || what < 0 || what > 3) {
            return NONE;
        }
        if (what == 0) {
            return stitchOf(k);
        }
        return (what == 1 ? now.cut[k] : isEnd(k, what - 2)) ? 1 : 0;
    }

    int wound(int i) {
        return i >= 0 && i < now.lengths.size() ? now.lengths.get(i) : NONE;
    }

    int book(int i, int what) {
        if (i < 0 || i >= now.book.size() || what < 0 || what > 2) {
            return NONE;
        }
        Going line = now.book.get(i);
        return what == 0 ? line.hour : what == 1 ? line.stitch : line.how;
    }

    int runs(int s, int what) {
        if (!isStitch(s) || !now.here[s / 8][s % 8] || what < 0 || what > 1) {
            return NONE;
        }
        boolean[][] here = Kept.copy(now.here);
        here[s / 8][s % 8] = false;
        boolean[][] ahead = Kept.copy(here);
        runOut(here, now.caught);
        if (what == 0) {
            return count(ahead) - count(here);
        }
        for (int y = 0; y < now.h; y++) {
            for (int x = 0; x < now.w; x++) {
                if (ahead[y][x] && !here[y][x]) {
                    return y;
                }
            }
        }
        return NONE;
    }

    private int goneWith(List<Integer> set) {
        boolean[][] here = Kept.copy(now.here);
        boolean[][] caught = Kept.copy(now.caught);
        for (int s : set) {
            caught[s / 8][s % 8] = true;
        }
        runOut(here, caught);
        return count(now.here) - count(here);
    }

    private static void sets(List<Integer> from, int start, int n, List<Integer> chosen, List<List<Integer>> into) {
        if (n == 0) {
            into.add(new ArrayList<>(chosen));
            return;
        }
        for (int i = start; i < from.size(); i++) {
            chosen.add(from.get(i));
            sets(from, i + 1, n - 1, chosen, into);
            chosen.remove(chosen.size() - 1);
        }
    }

    int save(int n, int what) {
        if (n < 0 || n > 3 || what < 0 || what > 3) {
            return NONE;
        }
        List<Integer> free = new ArrayList<>();
        for (int s = 0; s < 48; s++) {
            if (isStitch(s) && now.here[s / 8][s % 8] && !now.caught[s / 8][s % 8]) {
                free.add(s);
            }
        }
        List<List<Integer>> sets = new ArrayList<>();
        sets(free, 0, Math.min(n, free.size()), new ArrayList<>(), sets);
        int fewest = Integer.MAX_VALUE;
        List<Integer> best = List.of();
        for (List<Integer> set : sets) {
            int gone = goneWith(set);
            if (gone < fewest) {
                fewest = gone;
                best = set;
            }
        }
        return what == 0 ? fewest : what <= best.size() ? best.get(what - 1) : NONE;
    }

    private int[] inThought(int k, int way) {
        Kept before = now.copy();
        int[] came = pulled(k, way, 1000);
        now = before;
        return came;
    }

    int comes(int k, int way, int what) {
        if (!isEnd(k, way) || what < 0 || what > 1) {
            return NONE;
        }
        return inThought(k, way)[what];
    }

    int all(int what) {
        int here = count(now.here);
        for (int k = 0; k <= last() && here > 0; k++) {
            for (int way = 0; way < 2; way++) {
                if (isEnd(k, way) && inThought(k, way)[0] == here) {
                    return what == 0 ? k : what == 1 ? way : NONE;
                }
            }
        }
        return NONE;
    }

    int part(int a, int b, int c, int d) {
        if (a < 0 || a > b || b >= now.w || c < 0 || c > d || d >= now.h) {
            return NONE;
        }
        int cuts = 0;
        for (int k = 0; k < last(); k++) {
            int[] two = {stitchOf(k), stitchOf(k + 1)};
            int inside = 0;
            boolean hangs = !now.cut[k];
            for (int s : two) {
                int x = s % 8;
                int y = s / 8;
                inside += x >= a && x <= b && y >= c && y <= d ? 1 : 0;
                hangs &= !now.wound[y][x];
            }
            cuts += hangs && inside == 1 ? 1 : 0;
        }
        return cuts;
    }

    int join(int v) {
        if (v < 1) {
            return NONE;
        }
        // Which sums can be had of how many lengths: no thought about which is the longest.
        int[] most = new int[now.lengths.size() + 1];
        java.util.Arrays.fill(most, Integer.MIN_VALUE);
        most[0] = 0;
        for (int length : now.lengths) {
            for (int n = most.length - 1; n > 0; n--) {
                if (most[n - 1] != Integer.MIN_VALUE) {
                    most[n] = Math.max(most[n], most[n - 1] + length);
                }
            }
        }
        for (int n = 0; n < most.length; n++) {
            if (most[n] >= v) {
                return n;
            }
        }
        return NONE;
    }

    int quiet() {
        long likely = 1000000;
        for (int s = 0; s < 48; s++) {
            if (isStitch(s) && loose(s % 8, s / 8)) {
                likely = likely * (1000 - odds(s)) / 1000;
            }
        }
        return (int) likely;
    }

    int first(int what) {
        int many = 0;
        int least = NONE;
        for (int s = 47; s >= 0; s--) {
            if (isStitch(s)) {
                boolean[][] here = new boolean[now.h][now.w];
                for (boolean[] row : here) {
                    java.util.Arrays.fill(row, true);
                }
                here[s / 8][s % 8] = false;
                runOut(here, now.caught);
                if (java.util.Arrays.deepEquals(here, now.here)) {
                    many++;
                    least = s;
                }
            }
        }
        return what == 0 ? many : what == 1 ? least : NONE;
    }

    boolean undo() {
        if (past.isEmpty()) {
            return false;
        }
        now = past.removeLast();
        return true;
    }

    boolean image(boolean taken) {
        if (taken) {
            image = now.copy();
            return true;
        }
        if (image == null) {
            return false;
        }
        now = image.copy();
        past.clear();
        return true;
    }

    int look(int what) {
        int cuts = 0;
        for (boolean one : now.cut) {
            cuts += one ? 1 : 0;
        }
        int sum = 0;
        for (int length : now.lengths) {
            sum += length;
        }
        int[] answers = {now.w, now.h, now.bound ? 1 : 0, now.w * now.h - count(now.here), now.lengths.size(),
            now.book.size(), now.hour, now.state, cuts, now.law.lines(), past.size(), sum};
        return what >= 0 && what < answers.length ? answers[what] : NONE;
    }
}
