import java.util.ArrayList;
import java.util.List;
import java.util.Random;

/** Runs of random calls, each answer held against that of the plain model. */
public final class ModelTests {
    private static final int RUNS = 400;
    private static final int CALLS = 512;
    private final Random random;
    private final RandomTexts texts;
    private final PulledJersey x = new PulledJersey();
    private final PlainModel m = new PlainModel();
    private final List<String> calls = new ArrayList<>();
    private final int mood;
    private int w = 4;
    private int h = 4;
    private boolean isWrong;

    private ModelTests(long seed) {
        // Seeds that stand near one another would all begin with the same mood.
        random = new Random(seed * 0x9E3779B97F4A7C15L);
        mood = random.nextInt(4);
        texts = new RandomTexts(random);
    }

    public static void main(String[] args) {
        int runs = args.length > 0 ? Integer.parseInt(args[0]) : RUNS;
        long base = args.length > 1 ? Long.parseLong(args[1]) : 0;
        for (long seed = base; seed < base + runs; seed++) {
            ModelTests test = new ModelTests(seed);
            test.go();
            if (test.isWrong) {
                System.out.println("seed " + seed + ":");
                test.calls.forEach(System.out::println);
                System.exit(1);
            }
        }
        System.out.println("ModelTests: " + runs + " runs of " + CALLS + " calls answered like the plain model");
    }

    private void go() {
        for (int i = 0; i < CALLS && !isWrong; i++) {
            if (i < 12 && random.nextInt(3) == 0) {
                told();
            } else if (i >= 12 && mood == 1 && random.nextInt(4) > 0) {
                unravel();
            } else if (i >= 12 && mood == 2 && random.nextInt(4) > 0) {
                due("hours(100)", x.hours(100), m.hours(100));
            } else {
                call();
            }
            whole();
        }
    }

    private void due(String call, long got, long want) {
        calls.add(call + " = " + got + (got == want ? "" : ", but the model says " + want));
        isWrong |= got != want;
    }

    private void quietly(String call, long got, long want) {
        if (got != want) {
            due(call, got, want);
        }
    }

    private static long n(boolean b) {
        return b ? 1 : 0;
    }

    /** Looks over all that can be looked at without a change. */
    private void whole() {
        for (int what = -1; what <= 12; what++) {
            quietly("look(" + what + ")", x.look(what), m.look(what));
        }
        for (int s = 0; s < 48; s++) {
            for (int what = 0; what <= 6; what++) {
                quietly("of(" + s + ", " + what + ")", x.of(s, what), m.of(s, what));
            }
        }
        for (int k = 0; k < 36; k++) {
            for (int what = 1; what <= 3; what++) {
                quietly("at(" + k + ", " + what + ")", x.at(k, what), m.at(k, what));
            }
        }
        quietly("fault(0)", x.fault(0), m.fault(0));
        quietly("fault(1)", x.fault(1), m.fault(1));
        w = m.look(0);
        h = m.look(1);
    }

    private int stitch() {
        if (random.nextInt(30) == 0) {
            return odd(48);
        }
        return 8 * random.nextInt(h) + random.nextInt(w);
    }

    private int place() {
        return random.nextInt(30) == 0 ? odd(w * h) : random.nextInt(w * h);
    }

    /** An END more often than not. */
    private int[] end() {
        List<int[]> ends = new ArrayList<>();
        for (int k = 0; k < w * h; k++) {
            for (int way = 0; way < 2; way++) {
                if (m.at(k, 2 + way) == 1) {
                    ends.add(new int[] {k, way});
                }
            }
        }
        if (random.nextInt(8) == 0) {
            return new int[] {place(), random.nextInt(4) - 1};
        }
        return ends.get(random.nextInt(ends.size()));
    }

    /** About the limit, or far from all. */
    private int odd(int limit) {
        switch (random.nextInt(6)) {
            case 0:
                return Integer.MIN_VALUE;
            case 1:
                return Integer.MAX_VALUE;
            case 2:
                return random.nextInt();
            default:
                return random.nextBoolean() ? limit + random.nextInt(3) - 1 : -1 - random.nextInt(2);
        }
    }

    /** Loops that go and come again, so that the book and the lengths are filled to their bounds. */
    private void unravel() {
        int last = w * h - 1;
        int s = random.nextInt(3) == 0 ? stitch() : m.at(last, 0);
        int[] e = end();
        switch (random.nextInt(6)) {
            case 0:
                due("set(2, 0, 0)", n(x.set(2, 0, 0)), n(m.set(2, 0, 0)));
                break;
            case 1:
            case 2:
                due("set(3, " + s + ", 0)", n(x.set(3, s, 0)), n(m.set(3, s, 0)));
                break;
            case 3:
                due("gone(" + s + ")", n(x.gone(s)), n(m.gone(s)));
                break;
            case 4:
                due("pull(" + last + ", 0, 1)", x.pull(last, 0, 1), m.pull(last, 0, 1));
                break;
            default:
                due("pull(" + e[0] + ", " + e[1] + ", 1)", x.pull(e[0], e[1], 1), m.pull(e[0], e[1], 1));
        }
    }

    private void told() {
        switch (random.nextInt(9)) {
            case 0:
                int v = random.nextInt();
                due("state(" + v + ")", x.state(v), m.state(v));
                break;
            case 1:
                int a = random.nextInt(8) + (random.nextInt(4) == 0 ? -1 : 0);
                int b = random.nextInt(8);
                due("cloth(" + a + ", " + b + ")", n(x.cloth(a, b)), n(m.cloth(a, b)));
                break;
            case 2:
                text();
                break;
            default:
                set();
        }
    }

    private void set() {
        int what = random.nextInt(40) == 0 ? odd(4) : random.nextInt(10);
        what = what > 4 && what < 10 ? (what == 9 ? 3 : what == 8 ? 2 : 0) : what;
        int s = stitch();
        int v = random.nextInt(20) == 0 ? odd(what == 0 ? 4 : 2) : random.nextInt(what == 0 ? 4 : 2);
        due("set(" + what + ", " + s + ", " + v + ")", n(x.set(what, s, v)), n(m.set(what, s, v)));
    }

    private void text() {
        String text = texts.next();
        for (int from = 0; from < text.length(); from += 20) {
            int[] five = new int[5];
            for (int i = 0; i < 20; i++) {
                int sign = from + i < text.length() ? text.charAt(from + i) : ' ';
                five[i / 4] = five[i / 4] << 8 | sign;
            }
            feed(five);
        }
        int length = random.nextInt(20) == 0 ? odd(text.length()) : text.length();
        due("end(" + length + ")", n(x.end(length)), n(m.end(length)));
        if (random.nextInt(20) != 0) {
            due("text() of '" + text + "'", x.text(), m.text());
        }
    }

    private void feed(int[] f) {
        due("feed(" + f[0] + ", " + f[1] + ", " + f[2] + ", " + f[3] + ", " + f[4] + ")",
            x.feed(f[0], f[1], f[2], f[3], f[4]), m.feed(f[0], f[1], f[2], f[3], f[4]));
    }

    private void call() {
        int sort = random.nextInt(100);
        if (mood > 0 && sort < 6) {
            // A cloth that is told anew would keep the bounds out of reach.
            set3();
        } else if (sort < 6) {
            told();
        } else if (sort < 20) {
            int s = stitch();
            due("gone(" + s + ")", n(x.gone(s)), n(m.gone(s)));
        } else if (sort < 26) {
            int k = place();
            due("cut(" + k + ")", n(x.cut(k)), n(m.cut(k)));
        } else if (sort < 40) {
            int[] e = end();
            int most = random.nextInt(20) == 0 ? odd(37) : 1 + random.nextInt(random.nextBoolean() ? 4 : 36);
            due("pull(" + e[0] + ", " + e[1] + ", " + most + ")", x.pull(e[0], e[1], most), m.pull(e[0], e[1], most));
        } else if (sort < 50) {
            int hours = random.nextInt(20) == 0 ? odd(101) : random.nextInt(10) == 0 ? 100 : 1 + random.nextInt(3);
            due("hours(" + hours + ")", x.hours(hours), m.hours(hours));
        } else if (sort < 60) {
            due("undo()", n(x.undo()), n(m.undo()));
        } else if (sort < 64) {
            boolean taken = random.nextBoolean();
            due("image(" + taken + ")", n(x.image(taken)), n(m.image(taken)));
        } else if (sort < 67) {
            set3();
        } else {
            thought(random.nextInt(12));
        }
    }

    private void set3() {
        int s = stitch();
        due("set(3, " + s + ", 9)", n(x.set(3, s, 9)), n(m.set(3, s, 9)));
    }

    private int what(int limit) {
        return random.nextInt(20) == 0 ? odd(limit) : random.nextInt(limit);
    }

    private void thought(int sort) {
        int s = stitch();
        int[] e = end();
        int what = what(2);
        switch (sort) {
            case 0:
                due("runs(" + s + ", " + what + ")", x.runs(s, what), m.runs(s, what));
                break;
            case 1:
                int loops = random.nextInt(30) == 0 ? odd(4) : random.nextInt(w * h > 16 && random.nextInt(8) > 0 ? 3 : 4);
                what = what(4);
                due("save(" + loops + ", " + what + ")", x.save(loops, what), m.save(loops, what));
                break;
            case 2:
                due("comes(" + e[0] + ", " + e[1] + ", " + what + ")", x.comes(e[0], e[1], what), m.comes(e[0], e[1], what));
                break;
            case 3:
                due("all(" + what + ")", x.all(what), m.all(what));
                break;
            case 4:
                part();
                break;
            case 5:
                int v = random.nextInt(10) == 0 ? odd(1) : 1 + random.nextInt(120);
                due("join(" + v + ")", x.join(v), m.join(v));
                break;
            case 6:
                due("quiet()", x.quiet(), m.quiet());
                break;
            case 7:
                due("first(" + what + ")", x.first(what), m.first(what));
                break;
            case 8:
                int i = what(21);
                due("wound(" + i + ")", x.wound(i), m.wound(i));
                break;
            case 9:
                int line = what(101);
                what = what(3);
                due("book(" + line + ", " + what + ")", x.book(line, what), m.book(line, what));
                break;
            case 10:
                int k = place();
                what = what(4);
                due("at(" + k + ", " + what + ")", x.at(k, what), m.at(k, what));
                break;
            default:
                what = what(7);
                due("of(" + s + ", " + what + ")", x.of(s, what), m.of(s, what));
        }
    }

    private void part() {
        int a = random.nextInt(w);
        int b = random.nextInt(20) == 0 ? odd(w) : Math.min(w - 1, a + random.nextInt(3));
        int c = random.nextInt(20) == 0 ? odd(h) : random.nextInt(h);
        int d = random.nextInt(20) == 0 ? odd(h) : Math.min(h - 1, Math.max(0, c) % 8 + random.nextInt(3));
        due("part(" + a + ", " + b + ", " + c + ", " + d + ")", x.part(a, b, c, d), m.part(a, b, c, d));
    }
}
