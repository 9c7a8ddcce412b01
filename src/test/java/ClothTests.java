/** Promises 1 to 8: what is told of the cloth, and what is done to it. */
public final class ClothTests {
    private static final int NONE = PulledJersey.NONE;
    private static final Checks C = new Checks("ClothTests");

    public static void main(String[] args) {
        newObject();
        state();
        cloth();
        clothIsAnew();
        kinds();
        kindsAtTheBorder();
        caught();
        bound();
        hereAgain();
        setWrong();
        gone();
        cut();
        pull();
        pullPasses();
        pullStops();
        pullWrong();
        lengthsAreTwenty();
        hours();
        hourGoesBehindDraws();
        hoursWrong();
        bookIsHundred();
        C.close();
    }

    private static void newObject() {
        C.about("1 a new object");
        PulledJersey x = new PulledJersey();
        int[] looks = {4, 4, 1, 0, 0, 0, 0, 0, 0, 0, 0, 0};
        for (int i = 0; i < looks.length; i++) {
            C.due("look(" + i + ")", x.look(i), looks[i]);
        }
        for (int y = 0; y < 4; y++) {
            for (int c = 0; c < 4; c++) {
                int s = 8 * y + c;
                int[] of = {0, 1, 0, 1, y % 2 == 0 ? 4 * y + c : 4 * y + 3 - c, 0, 0};
                for (int i = 0; i < of.length; i++) {
                    C.due("of(" + s + ", " + i + ")", x.of(s, i), of[i]);
                }
            }
        }
        C.due("fault(0)", x.fault(0), 0);
        C.due("fault(1)", x.fault(1), NONE);
        C.no("undo()", x.undo());
        C.no("image(false)", x.image(false));
        C.due("text()", x.text(), 0);
    }

    private static void state() {
        C.about("2 state");
        PulledJersey x = new PulledJersey();
        C.due("state(7)", x.state(7), 0);
        C.due("state(min)", x.state(Integer.MIN_VALUE), 7);
        C.due("look(7)", x.look(7), Integer.MIN_VALUE);
        C.due("state(1)", x.state(1), Integer.MIN_VALUE);
        x.gone(0);
        x.state(1);
        C.due("look(10) behind state", x.look(10), 0);
    }

    private static void cloth() {
        C.about("3 cloth");
        PulledJersey x = new PulledJersey();
        int[][] wrong = {{1, 4}, {4, 1}, {7, 4}, {4, 7}, {0, 0}, {-3, 3}, {Integer.MAX_VALUE, 3}, {3, Integer.MIN_VALUE}};
        x.gone(5);
        x.gone(0);
        for (int[] one : wrong) {
            C.no("cloth(" + one[0] + ", " + one[1] + ")", x.cloth(one[0], one[1]));
        }
        C.due("look(3) behind wrong ones", x.look(3), 1);
        C.due("look(10) behind wrong ones", x.look(10), 1);
        for (int w = 2; w <= 6; w++) {
            for (int h = 2; h <= 6; h++) {
                C.yes("cloth(" + w + ", " + h + ")", x.cloth(w, h));
                C.due("look(0)", x.look(0), w);
                C.due("look(1)", x.look(1), h);
                C.due("last place", x.at(w * h - 1, 0) == NONE, false);
                C.due("behind the last", x.at(w * h, 0), NONE);
                C.due("a stitch", x.of(8 * (h - 1) + w - 1, 1), 1);
                C.due("none right of it", x.of(8 * (h - 1) + w, 1), NONE);
                C.due("none above it", x.of(8 * h + w - 1, 1), NONE);
            }
        }
    }

    private static void clothIsAnew() {
        C.about("3 cloth, told anew");
        PulledJersey x = new PulledJersey();
        Checks.tell(x, "run 1;run 2;");
        Checks.tell(x, "oh");
        x.set(0, 9, 3);
        x.set(1, 9, 1);
        x.set(2, 0, 0);
        x.image(true);
        x.state(77);
        x.cut(4);
        x.pull(15, 0, 3);
        x.feed(0, 0, 0, 0, 0);
        x.hours(3);
        int state = x.look(7);
        C.yes("cloth(4, 4)", x.cloth(4, 4));
        int[] looks = {4, 4, 1, 0, 0, 0, 0, state, 0, 0, 0, 0};
        for (int i = 0; i < looks.length; i++) {
            C.due("look(" + i + ")", x.look(i), looks[i]);
        }
        C.due("kind", x.of(9, 0), 0);
        C.due("caught", x.of(9, 2), 0);
        C.due("wound", x.of(24, 6), 0);
        C.due("fault stays", x.fault(0), 1);
        C.due("fault's place stays", x.fault(1), 0);
        C.due("the tape stays", x.feed(0, 0, 0, 0, 0), 40);
        C.yes("the image stays", x.image(false));
        C.due("look(9) of the image", x.look(9), 2);
        C.due("kind of the image", x.of(9, 0), 3);
    }

    /** What holds loop s alone, if all of the row above but the stitch go. */
    private static int heldBy(int w, int loop, int stitch, int kind) {
        PulledJersey x = new PulledJersey();
        x.cloth(w, 2);
        for (int c = 0; c < w; c++) {
            if (8 + c != stitch) {
                x.gone(8 + c);
            }
        }
        x.set(0, stitch, kind);
        return x.of(loop, 3);
    }

    private static void drawn(int w, int x, int kind, int... loops) {
        for (int loop = 0; loop < w; loop++) {
            int want = 0;
            for (int one : loops) {
                want |= one == loop ? 1 : 0;
            }
            C.due("loop " + loop + " of " + w + " under x " + x + " of kind " + kind, heldBy(w, loop, 8 + x, kind), want);
        }
    }

    private static void kinds() {
        C.about("4 set, kinds");
        drawn(4, 0, 0, 0);
        drawn(4, 3, 0, 3);
        drawn(4, 0, 1, 1);
        drawn(4, 1, 1, 0);
        drawn(4, 2, 1, 3);
        drawn(4, 3, 1, 2);
        drawn(4, 1, 2);
        drawn(4, 1, 3, 1, 2);
        drawn(4, 0, 3, 0, 1);
        PulledJersey x = new PulledJersey();
        for (int v = 3; v >= 0; v--) {
            C.yes("set(0, 27, " + v + ")", x.set(0, 27, v));
            C.due("of(27, 0)", x.of(27, 0), v);
            C.due("of(26, 0)", x.of(26, 0), 0);
        }
    }

    private static void kindsAtTheBorder() {
        C.about("4 set, kinds at the border");
        drawn(5, 4, 1, 4);
        drawn(3, 2, 1, 2);
        drawn(4, 3, 3, 3);
        drawn(6, 5, 1, 4);
        drawn(6, 4, 1, 5);
        drawn(6, 5, 3, 5);
        drawn(2, 0, 3, 0, 1);
    }

    private static void caught() {
        C.about("4 set, caught");
        PulledJersey x = new PulledJersey();
        x.gone(24);
        C.due("of(16, 3)", x.of(16, 3), 0);
        C.yes("set(1, 16, 1)", x.set(1, 16, 1));
        C.due("of(16, 3)", x.of(16, 3), 1);
        C.due("of(16, 2)", x.of(16, 2), 1);
        C.yes("a gone one can be caught", x.set(1, 24, 1));
        C.due("caught, not here", x.of(24, 2), 1);
        C.due("gone, not held", x.of(24, 3), 0);
        C.yes("set(1, 16, 0)", x.set(1, 16, 0));
        C.due("of(16, 3)", x.of(16, 3), 0);
    }

    private static void bound() {
        C.about("4 set, bound");
        PulledJersey x = new PulledJersey();
        C.yes("set(2, -5, 0)", x.set(2, -5, 0));
        C.due("look(2)", x.look(2), 0);
        C.due("of(27, 3)", x.of(27, 3), 0);
        C.due("of(19, 3)", x.of(19, 3), 1);
        C.yes("set(2, 99, 1)", x.set(2, 99, 1));
        C.due("of(27, 3)", x.of(27, 3), 1);
    }

    private static void hereAgain() {
        C.about("4 set, here again");
        PulledJersey x = new PulledJersey();
        x.set(2, 0, 0);
        x.pull(15, 0, 2);
        C.due("of(24, 6)", x.of(24, 6), 1);
        C.yes("set(3, 24, -9)", x.set(3, 24, -9));
        C.due("of(24, 1)", x.of(24, 1), 1);
        C.due("of(24, 6)", x.of(24, 6), 0);
        C.due("of(25, 6)", x.of(25, 6), 1);
        C.due("look(3)", x.look(3), 1);
        C.due("lengths stay", x.look(4), 1);
        C.due("the book stays", x.look(5), 2);
        C.yes("one that is here", x.set(3, 0, 5));
        C.due("look(3)", x.look(3), 1);
    }

    private static void setWrong() {
        C.about("4 set, wrong");
        PulledJersey x = new PulledJersey();
        x.gone(0);
        int[][] wrong = {{0, 0, 4}, {0, 0, -1}, {0, 4, 0}, {0, 32, 0}, {0, -1, 0}, {0, 64, 0}, {1, 0, 2}, {1, 0, -1},
            {1, 7, 1}, {2, 0, 2}, {2, 0, -1}, {3, 4, 0}, {3, 32, 0}, {3, Integer.MIN_VALUE, 0}, {4, 0, 0}, {-1, 0, 0},
            {0, Integer.MAX_VALUE, 0}, {Integer.MAX_VALUE, 0, 0}};
        for (int[] one : wrong) {
            C.no("set(" + one[0] + ", " + one[1] + ", " + one[2] + ")", x.set(one[0], one[1], one[2]));
        }
        C.due("nothing forgotten", x.look(10), 1);
        C.yes("set(0, 1, 0)", x.set(0, 1, 0));
        C.due("all forgotten", x.look(10), 0);
    }

    private static void gone() {
        C.about("5 gone");
        PulledJersey x = new PulledJersey();
        x.hours(3);
        C.yes("gone(9)", x.gone(9));
        C.due("of(9, 1)", x.of(9, 1), 0);
        C.due("of(9, 6)", x.of(9, 6), 0);
        C.no("gone(9)", x.gone(9));
        C.no("gone(4)", x.gone(4));
        C.no("gone(32)", x.gone(32));
        C.no("gone(-1)", x.gone(-1));
        C.no("gone(65)", x.gone(65));
        C.no("gone(min)", x.gone(Integer.MIN_VALUE));
        C.due("look(3)", x.look(3), 1);
        C.due("look(5)", x.look(5), 1);
        C.due("look(10)", x.look(10), 4);
        C.due("book(0, 0)", x.book(0, 0), 3);
        C.due("book(0, 1)", x.book(0, 1), 9);
        C.due("book(0, 2)", x.book(0, 2), 0);
        C.due("no length", x.look(4), 0);
        x.set(1, 10, 1);
        C.yes("one that is caught goes", x.gone(10));
    }

    private static void cut() {
        C.about("6 cut");
        PulledJersey x = new PulledJersey();
        C.yes("cut(0)", x.cut(0));
        C.yes("cut(14)", x.cut(14));
        C.no("cut(14)", x.cut(14));
        C.no("cut(15)", x.cut(15));
        C.no("cut(-1)", x.cut(-1));
        C.no("cut(64)", x.cut(64));
        C.no("cut(min)", x.cut(Integer.MIN_VALUE));
        C.due("look(8)", x.look(8), 2);
        C.due("look(10)", x.look(10), 2);
        C.due("at(0, 1)", x.at(0, 1), 1);
        C.due("at(0, 2)", x.at(0, 2), 1);
        C.due("at(1, 3)", x.at(1, 3), 1);
        C.due("at(15, 3)", x.at(15, 3), 1);
        C.due("at(14, 2)", x.at(14, 2), 1);
        x.cloth(6, 6);
        C.yes("cut(34)", x.cut(34));
        C.no("cut(35)", x.cut(35));
    }

    private static void pull() {
        C.about("7 pull");
        PulledJersey x = new PulledJersey();
        x.set(2, 0, 0);
        x.set(0, 24, 1);
        x.set(0, 25, 2);
        x.set(0, 26, 3);
        x.hours(4);
        // All four of the uppermost row ran by their draws or not; they are brought back.
        for (int s = 0; s < 28; s++) {
            x.set(3, s, 0);
        }
        int lines = x.look(5);
        C.due("pull(15, 0, 3)", x.pull(15, 0, 3), 3);
        C.due("wound(0)", x.wound(0), 4 + 2 + 5);
        C.due("first line", x.book(lines, 1), 24);
        C.due("second line", x.book(lines + 1, 1), 25);
        C.due("third line", x.book(lines + 2, 1), 26);
        C.due("its hour", x.book(lines + 2, 0), 4);
        C.due("how", x.book(lines + 2, 2), 2);
        C.due("of(26, 6)", x.of(26, 6), 1);
        C.due("of(27, 6)", x.of(27, 6), 0);
        C.due("pull(15, 0, 36)", x.pull(15, 0, 36), 13);
        C.due("wound(1)", x.wound(1), 39);
        C.due("pull(15, 0, 1)", x.pull(15, 0, 1), 0);
        C.due("no third length", x.look(4), 2);
    }

    private static void pullPasses() {
        C.about("7 pull, passing");
        PulledJersey x = new PulledJersey();
        x.set(2, 0, 0);
        x.gone(24);
        x.gone(26);
        x.gone(27);
        // 24 is passed, 25 goes; 26 and 27 stand behind the last that may go.
        C.due("pull(15, 0, 1)", x.pull(15, 0, 1), 1);
        C.due("wound(0)", x.wound(0), 6);
        C.due("of(24, 6)", x.of(24, 6), 1);
        C.due("of(26, 6)", x.of(26, 6), 0);
        x.set(1, 19, 1);
        // Nothing comes undone ahead of the caught 19: what was passed is not wound.
        C.due("pull(15, 0, 5)", x.pull(15, 0, 5), 0);
        C.due("of(26, 6)", x.of(26, 6), 0);
        C.due("look(4)", x.look(4), 1);
        x.set(1, 19, 0);
        // Passed: 24 and 25 (wound already), 26 and 27; undone: 19.
        C.due("pull(15, 0, 1)", x.pull(15, 0, 1), 1);
        C.due("wound(1)", x.wound(1), 9);
        x.gone(17);
        x.set(1, 16, 1);
        // Undone: 18; passed behind it: 17; it stops ahead of 16.
        C.due("pull(15, 0, 9)", x.pull(15, 0, 9), 1);
        C.due("wound(2)", x.wound(2), 6);
        C.due("of(17, 6)", x.of(17, 6), 1);
    }

    private static void pullStops() {
        C.about("7 pull, stops");
        PulledJersey x = new PulledJersey();
        x.set(2, 0, 0);
        x.cut(13);
        C.due("pull(15, 0, 9) to the cut", x.pull(15, 0, 9), 2);
        C.due("pull(13, 1, 1) no end", x.pull(13, 1, 1), NONE);
        C.due("pull(14, 1, 9) nothing left", x.pull(14, 1, 9), 0);
        C.due("pull(13, 0, 2)", x.pull(13, 0, 2), 2);
        PulledJersey y = new PulledJersey();
        for (int s = 8; s < 12; s++) {
            y.set(0, s, 2);
        }
        y.cut(1);
        C.due("pull(0, 1, 9) by the way on", y.pull(0, 1, 9), 2);
        C.due("pull(2, 1, 9)", y.pull(2, 1, 9), 2);
        C.due("of(11, 3) held", y.of(11, 3), 1);
        C.due("pull(1, 0, 9)", y.pull(1, 0, 9), 0);
        C.due("book(0, 1)", y.book(0, 1), 0);
        C.due("book(1, 1)", y.book(1, 1), 1);
        C.due("book(2, 1)", y.book(2, 1), 2);
    }

    private static void pullWrong() {
        C.about("7 pull, wrong");
        PulledJersey x = new PulledJersey();
        x.set(2, 0, 0);
        int[][] wrong = {{15, 0, 0}, {15, 0, 37}, {15, 0, -1}, {15, 1, 1}, {0, 0, 1}, {7, 0, 1}, {7, 1, 1}, {16, 0, 1},
            {-1, 1, 1}, {15, 2, 1}, {0, -1, 1}, {Integer.MIN_VALUE, 0, 1}, {64, 0, 1}, {64, 1, 1}};
        for (int[] one : wrong) {
            C.due("pull(" + one[0] + ", " + one[1] + ", " + one[2] + ")", x.pull(one[0], one[1], one[2]), NONE);
        }
        C.due("look(3)", x.look(3), 0);
        C.due("look(10)", x.look(10), 0);
        C.due("pull(15, 0, 36)", x.pull(15, 0, 36), 16);
    }

    private static void lengthsAreTwenty() {
        C.about("7 pull, twenty lengths");
        PulledJersey x = new PulledJersey();
        x.set(2, 0, 0);
        for (int i = 0; i < 23; i++) {
            x.set(3, 24, 0);
            x.set(0, 24, i == 19 ? 3 : i > 19 ? 2 : 0);
            C.due("pull " + i, x.pull(15, 0, 1), 1);
        }
        C.due("look(4)", x.look(4), 20);
        C.due("wound(19)", x.wound(19), 5);
        C.due("wound(20)", x.wound(20), NONE);
        C.due("look(11)", x.look(11), 19 * 3 + 5);
        C.due("wound all the same", x.of(24, 6), 1);
        C.yes("undo()", x.undo());
        C.due("look(4) behind undo", x.look(4), 20);
        C.due("of(24, 6) behind undo", x.of(24, 6), 0);
    }

    private static int next(int state) {
        return 1664525 * state + 1013904223;
    }

    private static int drawn(int state) {
        return (int) ((state & 0xFFFFFFFFL) >> 8) % 1000;
    }

    private static void hours() {
        C.about("8 hours");
        for (int seed = -40; seed < 40; seed++) {
            PulledJersey x = new PulledJersey();
            x.state(seed * 12345677);
            x.gone(24);
            x.gone(25);
            int one = next(seed * 12345677);
            int two = next(one);
            int ran = (drawn(one) < 500 ? 1 : 0) + (drawn(two) < 500 ? 1 : 0);
            C.due("hours(1) of " + seed, x.hours(1), ran);
            C.due("of(16, 1)", x.of(16, 1), drawn(one) < 500 ? 0 : 1);
            C.due("of(17, 1)", x.of(17, 1), drawn(two) < 500 ? 0 : 1);
            C.due("look(7)", x.look(7), two);
            C.due("look(6)", x.look(6), 1);
            C.due("look(5)", x.look(5), 2 + ran);
        }
        PulledJersey x = new PulledJersey();
        Checks.tell(x, "run 1000;");
        x.gone(26);
        C.due("hours(5)", x.hours(5), 3);
        for (int i = 0; i < 3; i++) {
            C.due("hour of line " + i, x.book(1 + i, 0), i);
            C.due("stitch of line " + i, x.book(1 + i, 1), 18 - 8 * i);
            C.due("how of line " + i, x.book(1 + i, 2), 1);
        }
        C.due("three draws", x.look(7), next(next(next(0))));
        C.due("look(10)", x.look(10), 6);
        Checks.tell(x, "run 0;");
        x.gone(27);
        C.due("hours(2) at odds 0", x.hours(2), 0);
        C.due("no draw at odds 0", x.look(7), next(next(next(0))));
    }

    private static void hourGoesBehindDraws() {
        C.about("8 hours, behind all draws");
        PulledJersey x = new PulledJersey();
        // 16, 17 and 18 are loose; each goes only while two stand beside it, or for 16 just one.
        Checks.tell(x, "run 1000 when beside=2 or column=0;run 0;");
        x.gone(24);
        x.gone(25);
        x.gone(26);
        C.due("hours(1)", x.hours(1), 3);
        C.due("book(3, 1)", x.book(3, 1), 16);
        C.due("book(4, 1)", x.book(4, 1), 17);
        C.due("book(5, 1)", x.book(5, 1), 18);
        // What comes loose by the hour goes in the next one at first.
        C.due("of(8, 1)", x.of(8, 1), 1);
    }

    private static void hoursWrong() {
        C.about("8 hours, wrong");
        PulledJersey x = new PulledJersey();
        C.due("hours(0)", x.hours(0), NONE);
        C.due("hours(101)", x.hours(101), NONE);
        C.due("hours(-1)", x.hours(-1), NONE);
        C.due("hours(max)", x.hours(Integer.MAX_VALUE), NONE);
        C.due("look(6)", x.look(6), 0);
        for (int i = 0; i < 99; i++) {
            x.hours(100);
        }
        C.due("look(6)", x.look(6), 9900);
        C.due("hours(100)", x.hours(100), NONE);
        C.due("look(6)", x.look(6), 9900);
        C.due("hours(99)", x.hours(99), 0);
        C.due("look(6)", x.look(6), 9999);
        C.due("hours(1)", x.hours(1), NONE);
        C.due("look(10)", x.look(10), 8);
        C.yes("undo()", x.undo());
        C.due("look(6)", x.look(6), 9998);
        C.due("hours(1)", x.hours(1), 0);
    }

    private static void bookIsHundred() {
        C.about("16 book, a hundred lines");
        PulledJersey x = new PulledJersey();
        for (int i = 0; i < 103; i++) {
            C.yes("gone(0)", x.gone(0));
            if (i < 102) {
                x.set(3, 0, 0);
            }
        }
        C.due("look(5)", x.look(5), 100);
        C.due("book(99, 1)", x.book(99, 1), 0);
        C.due("book(100, 1)", x.book(100, 1), NONE);
        x.gone(1);
        C.due("book(99, 1)", x.book(99, 1), 0);
    }
}
