/** The bounds that the promises 1 to 27 name: what each call takes, and what it refuses, changing nothing. */
public final class CallBoundTests {
    private static final int NONE = PulledJersey.NONE;
    private static final int MIN = Integer.MIN_VALUE;
    private static final int MAX = Integer.MAX_VALUE;
    private static final Checks C = new Checks("CallBoundTests");
    /** What is no STITCH of Worn's cloth, five by three, nor of any row's end. */
    private static final int[] NO_STITCHES = {-1, -8, 5, 7, 13, 15, 21, 24, 32, 48, 64, 65, 1 << 16, MIN, MAX};
    /** What is no place of its thread, though 64 more or less than an END may be one. */
    private static final int[] NO_PLACES = {-1, 15, 16, 32, 63, 64, 65, 67, 68, 72, 73, 78, -50, -55, -56, -60, -61, MIN,
        MAX};

    public static void main(String[] args) {
        newObject();
        state();
        cloth();
        setKind();
        setCaught();
        setBound();
        setHere();
        setRefused();
        gone();
        cut();
        pull();
        pullRefused();
        hours();
        hoursRefused();
        feed();
        feedRefused();
        end();
        text();
        textWithFault();
        fault();
        of();
        at();
        wound();
        book();
        runs();
        save();
        comes();
        all();
        part();
        join();
        quiet();
        first();
        undo();
        image();
        look();
        behindTheLastCall();
        C.close();
    }

    private static long n(boolean b) {
        return Checks.n(b);
    }

    private static void newObject() {
        C.sentence("`PulledJersey()`: A cloth of four by four.");
        PulledJersey x = new PulledJersey();
        C.due("look(0)", x.look(0), 4);
        C.due("look(1)", x.look(1), 4);
        C.due("the last STITCH", x.of(27, 1), 1);
        C.due("none behind it", x.of(28, 1), NONE);
        C.due("none above it", x.of(35, 1), NONE);
        C.due("the last place", x.at(15, 0), 24);
        C.due("none behind it", x.at(16, 0), NONE);
        PulledJersey told = Checks.cloth(4, 4);
        C.same("a new one is none like cloth(4, 4)", x, told);
    }

    private static void state() {
        C.sentence("`int state(int v)`: STATE is told: what it was.");
        PulledJersey x = new PulledJersey();
        C.due("state(-1)", x.state(-1), 0);
        C.due("state(max)", x.state(MAX), -1);
        C.due("state(min)", x.state(MIN), MAX);
        C.due("state(0)", x.state(0), MIN);
        C.due("look(7)", x.look(7), 0);
    }

    private static void cloth() {
        C.sentence("W, H are told: true; false, and nothing is done, if they can't be.");
        C.yes("cloth(2, 2)", new PulledJersey().cloth(2, 2));
        C.yes("cloth(2, 6)", new PulledJersey().cloth(2, 6));
        C.yes("cloth(6, 2)", new PulledJersey().cloth(6, 2));
        C.yes("cloth(6, 6)", new PulledJersey().cloth(6, 6));
        for (int side : new int[] {1, 7, 0, -1, -2, 8, MIN, MAX}) {
            C.refused("cloth(" + side + ", 2)", x -> n(x.cloth(side, 2)), 0);
            C.refused("cloth(6, " + side + ")", x -> n(x.cloth(6, side)), 0);
        }
    }

    private static void setKind() {
        C.sentence("What 0 KIND,");
        PulledJersey x = Checks.cloth(6, 6);
        for (int s : new int[] {0, 5, 40, 45}) {
            for (int v = 3; v >= 0; v--) {
                C.yes("set(0, " + s + ", " + v + ")", x.set(0, s, v));
                C.due("of(" + s + ", 0)", x.of(s, 0), v);
            }
        }
        for (int v : new int[] {-1, 4, 5, 7, MIN, MAX}) {
            C.refused("set(0, 1, " + v + ")", y -> n(y.set(0, 1, v)), 0);
        }
    }

    private static void setCaught() {
        C.sentence("1 CAUGHT (0, 1) of a STITCH,");
        PulledJersey x = Checks.cloth(6, 6);
        x.gone(5);
        for (int s : new int[] {0, 5, 40, 45}) {
            for (int v = 1; v >= 0; v--) {
                C.yes("set(1, " + s + ", " + v + ")", x.set(1, s, v));
                C.due("of(" + s + ", 2)", x.of(s, 2), v);
            }
        }
        for (int v : new int[] {-1, 2, 3, MIN, MAX}) {
            C.refused("set(1, 4, " + v + ")", y -> n(y.set(1, 4, v)), 0);
        }
    }

    private static void setBound() {
        C.sentence("2 BOUND (0, 1; STITCH not asked),");
        PulledJersey x = new PulledJersey();
        for (int s : new int[] {0, -1, 4, 48, 64, MIN, MAX}) {
            C.yes("set(2, " + s + ", 0)", x.set(2, s, 0));
            C.due("look(2)", x.look(2), 0);
            C.yes("set(2, " + s + ", 1)", x.set(2, s, 1));
            C.due("look(2)", x.look(2), 1);
        }
        for (int v : new int[] {-1, 2, 3, MIN, MAX}) {
            C.refused("set(2, 0, " + v + ")", y -> n(y.set(2, 0, v)), 0);
        }
    }

    private static void setHere() {
        C.sentence("3 HERE again, not WOUND (v not asked): true;");
        for (int v : new int[] {0, -1, 2, 4, MIN, MAX}) {
            PulledJersey x = Worn.make();
            C.due("20 is WOUND", x.of(20, 6), 1);
            C.yes("set(3, 20, " + v + ")", x.set(3, 20, v));
            C.due("HERE again", x.of(20, 1), 1);
            C.due("not WOUND", x.of(20, 6), 0);
            C.due("19 is GONE and WOUND still", x.of(19, 6) - x.of(19, 1), 1);
            C.yes("set(3, 0, " + v + ")", x.set(3, 0, v));
            C.due("HERE again, never WOUND", x.of(0, 1), 1);
            C.yes("one that is HERE", x.set(3, 1, v));
            C.due("as it was", x.of(1, 1), 1);
            C.due("CAUGHT still", x.of(1, 2), 1);
        }
    }

    private static void setRefused() {
        C.sentence("false if one can't be, or another what.");
        for (int s : NO_STITCHES) {
            C.refused("set(0, " + s + ", 1)", x -> n(x.set(0, s, 1)), 0);
            C.refused("set(1, " + s + ", 1)", x -> n(x.set(1, s, 1)), 0);
            C.refused("set(3, " + s + ", 0)", x -> n(x.set(3, s, 0)), 0);
        }
        for (int what : new int[] {-1, 4, 5, MIN, MAX}) {
            C.refused("set(" + what + ", 0, 0)", x -> n(x.set(what, 0, 0)), 0);
            C.refused("set(" + what + ", 8, 1)", x -> n(x.set(what, 8, 1)), 0);
        }
    }

    private static void gone() {
        C.sentence("A STITCH that is HERE goes: true; false if one can't be.");
        PulledJersey x = Checks.cloth(6, 6);
        for (int s : new int[] {0, 5, 40, 45}) {
            C.yes("gone(" + s + ")", x.gone(s));
            C.no("gone(" + s + ") once more", x.gone(s));
        }
        C.due("four are GONE", x.look(3), 4);
        C.due("four lines", x.look(5), 4);
        C.yes("HERE again", x.set(3, 45, 0));
        C.yes("gone(45) again", x.gone(45));
        for (int s : NO_STITCHES) {
            C.refused("gone(" + s + ")", y -> n(y.gone(s)), 0);
        }
        C.refused("gone(0), GONE", y -> n(y.gone(0)), 0);
        C.refused("gone(20), WOUND", y -> n(y.gone(20)), 0);
    }

    private static void cut() {
        C.sentence("A CUT behind place k: true; false if one can't be (there is one).");
        PulledJersey x = Checks.cloth(5, 3);
        C.yes("cut(0)", x.cut(0));
        C.yes("cut(13)", x.cut(13));
        C.due("look(8)", x.look(8), 2);
        C.refused("cut(3), there is one", y -> n(y.cut(3)), 0);
        C.refused("cut(8), there is one", y -> n(y.cut(8)), 0);
        C.refused("cut(14), the last", y -> n(y.cut(14)), 0);
        for (int k : NO_PLACES) {
            C.refused("cut(" + k + ")", y -> n(y.cut(k)), 0);
        }
    }

    private static void pull() {
        C.sentence("An END is PULLED (way 1 on, 0 back), n (1 .. 36) at most: how many came undone.");
        PulledJersey x = Checks.cloth(6, 6);
        x.set(2, 0, 0);
        C.due("pull(35, 0, 1)", x.pull(35, 0, 1), 1);
        C.due("pull(35, 0, 36)", x.pull(35, 0, 36), 35);
        C.due("pull(35, 0, 36) of nothing", x.pull(35, 0, 36), 0);
        C.due("pull(0, 1, 36) of nothing", x.pull(0, 1, 36), 0);
        PulledJersey y = Checks.cloth(2, 2);
        y.set(0, 8, 2);
        C.due("pull(0, 1, 1) on", y.pull(0, 1, 1), 1);
        C.due("0 came undone", y.of(0, 1), 0);
        C.due("pull(3, 0, 1) back", y.pull(3, 0, 1), 0);
    }

    private static void pullRefused() {
        C.sentence("NONE, and nothing is done, if one can't be (no END).");
        for (int n : new int[] {0, 37, -1, 38, MIN, MAX}) {
            C.refused("pull(14, 0, " + n + ")", x -> x.pull(14, 0, n));
        }
        for (int way : new int[] {-1, 2, 3, MIN, MAX}) {
            C.refused("pull(14, " + way + ", 1)", x -> x.pull(14, way, 1));
            C.refused("pull(0, " + way + ", 1)", x -> x.pull(0, way, 1));
        }
        for (int k : NO_PLACES) {
            C.refused("pull(" + k + ", 0, 1)", x -> x.pull(k, 0, 1));
            C.refused("pull(" + k + ", 1, 1)", x -> x.pull(k, 1, 1));
        }
        // ENDS are 0, 4 and 9 by the way on, 3, 8 and 14 by the way back.
        for (int k : new int[] {1, 2, 3, 5, 7, 8, 10, 13, 14}) {
            C.refused("pull(" + k + ", 1, 1), no END", x -> x.pull(k, 1, 1));
        }
        for (int k : new int[] {0, 1, 2, 4, 7, 9, 10, 13}) {
            C.refused("pull(" + k + ", 0, 1), no END", x -> x.pull(k, 0, 1));
        }
    }

    private static void hours() {
        C.sentence("HOURS go by (1 .. 100): how many ran.");
        PulledJersey x = new PulledJersey();
        C.due("hours(1)", x.hours(1), 0);
        C.due("look(6)", x.look(6), 1);
        C.due("hours(100)", x.hours(100), 0);
        C.due("look(6)", x.look(6), 101);
        Checks.tell(x, "run 1000;");
        x.set(2, 0, 0);
        C.due("hours(2): two rows", x.hours(2), 8);
        C.due("hours(100): all the others", x.hours(100), 8);
    }

    private static void hoursRefused() {
        C.sentence("NONE, and nothing is done, if one can't be, or HOUR would be above 9999.");
        for (int n : new int[] {0, 101, -1, 102, MIN, MAX}) {
            C.refused("hours(" + n + ")", x -> x.hours(n));
        }
        PulledJersey x = new PulledJersey();
        x.set(2, 0, 0);
        Checks.tell(x, "run 0 when hour<9998;run 1000;");
        for (int i = 0; i < 99; i++) {
            x.hours(100);
        }
        C.due("hours(100), 10000 would be", x.hours(100), NONE);
        C.due("look(6)", x.look(6), 9900);
        x.hours(98);
        x.state(5);
        C.due("look(6)", x.look(6), 9998);
        C.due("hours(2), 10000 would be", x.hours(2), NONE);
        C.due("no HOUR of them", x.look(6), 9998);
        C.due("no DRAW of them", x.look(7), 5);
        C.due("none ran", x.look(3), 0);
        C.due("nothing to undo", x.look(10), 0);
        C.due("hours(1)", x.hours(1), 4);
        C.due("look(6)", x.look(6), 9999);
        C.due("hours(1) at 9999", x.hours(1), NONE);
        C.due("look(10)", x.look(10), 1);
        C.due("hours(100) at 9999", x.hours(100), NONE);
        x.undo();
        C.due("hours(1) again", x.hours(1), 4);
    }

    private static void feed() {
        C.sentence("Twenty bytes come behind the TAPE, of each number the highest first: how many it has.");
        PulledJersey x = new PulledJersey();
        // "run " "1+2 " "+3  " "    " "+40;"
        C.due("feed", x.feed(0x72756e20, 0x312b3220, 0x2b332020, 0x20202020, 0x2b34303b), 20);
        C.due("text()", x.text(), 1);
        x.gone(24);
        C.due("the sum", x.of(16, 5), 46);
        for (int i = 1; i <= 20; i++) {
            C.due("feed " + i, x.feed(MIN, -1, MAX, 0, 1), 20 * i);
        }
        // What comes behind: the text goes on from the bytes that are there.
        x.end(0);
        Checks.feed(x, "run 1");
        C.due("feed behind five", x.feed(0x32333b20, 0x20202020, 0x20202020, 0x20202020, 0x20202020), 25);
        C.due("text()", x.text(), 1);
        C.due("one number of two feeds", x.of(16, 5), 123);
        // Bytes above 127 are bytes, too.
        x.feed(-1, -1, -1, -1, -1);
        C.due("text() of 255s", x.text(), NONE);
        C.due("its place", x.fault(1), 0);
    }

    private static void feedRefused() {
        C.sentence("NONE, and nothing comes, if there would be more than 400.");
        for (int length = 379; length <= 400; length++) {
            PulledJersey x = new PulledJersey();
            Checks.feed(x, " ".repeat(length));
            boolean fits = length <= 380;
            C.due("feed behind " + length, x.feed(0, 0, 0, 0, 0), fits ? length + 20 : NONE);
            int then = fits ? length + 20 : length;
            C.no("no more bytes than " + then, x.end(then + 1));
            C.yes("so many bytes", x.end(then));
            C.due("text() of blanks, and of zeros if they came", x.text(), fits ? NONE : 0);
        }
    }

    private static void end() {
        C.sentence("The TAPE has its first n bytes alone: true; false, changing nothing, if it has not so many,"
            + " or n is below 0.");
        for (int n : new int[] {Worn.TAPE + 1, 20, 400, 401, -1, MIN, MAX}) {
            C.refused("end(" + n + ")", x -> n(x.end(n)), 0);
        }
        C.refused("end(7), all of it", x -> n(x.end(Worn.TAPE)), 1);
        PulledJersey x = new PulledJersey();
        C.yes("end(0) of an empty one", x.end(0));
        C.no("end(1) of an empty one", x.end(1));
        Checks.feed(x, "run 1234;");
        C.no("end(10)", x.end(10));
        C.yes("end(5)", x.end(5));
        C.no("end(6): it is gone", x.end(6));
        C.due("feed behind five", x.feed(0x3b202020, 0x20202020, 0x20202020, 0x20202020, 0x20202020), 25);
        C.due("text()", x.text(), 1);
        x.gone(24);
        C.due("run 1;", x.of(16, 5), 1);
        Checks.feed(x, " ".repeat(400));
        C.no("end(401)", x.end(401));
        C.yes("end(400)", x.end(400));
        C.yes("end(0)", x.end(0));
        C.due("feed", x.feed(0, 0, 0, 0, 0), 20);
    }

    private static void text() {
        C.sentence("The TAPE, empty then, is THE LAW: how many lines.");
        PulledJersey x = new PulledJersey();
        x.gone(24);
        C.due("of nothing", x.text(), 0);
        C.due("of sixteen lines", Checks.tell(x, "run 2;".repeat(16)), 16);
        C.due("look(9)", x.look(9), 16);
        C.due("of(16, 5)", x.of(16, 5), 2);
        C.no("the TAPE is empty", x.end(1));
        C.due("of nothing: THE LAW is empty", x.text(), 0);
        C.due("look(9)", x.look(9), 0);
        C.due("of(16, 5)", x.of(16, 5), 500);
        C.due("of 400 bytes", Checks.tell(x, "run 1" + "+1".repeat(197) + ";"), 1);
        C.due("of(16, 5)", x.of(16, 5), 198);
    }

    private static void textWithFault() {
        C.sentence("NONE: a FAULT (it stays as it was).");
        PulledJersey x = new PulledJersey();
        x.gone(24);
        Checks.tell(x, "run 7 when column=0;run 8;");
        // A fault in the last of several lines: none of the lines before it is told.
        for (String text : new String[] {"run 1;run 2;run 3", "run 1/0;", "run 1;".repeat(17), "!"}) {
            C.due("text() of " + text, Checks.tell(x, text), NONE);
            C.due("lines behind " + text, x.look(9), 2);
            C.due("odds behind " + text, x.of(16, 5), 7);
            C.no("the TAPE is empty behind " + text, x.end(1));
        }
    }

    private static void fault() {
        C.sentence("Of the latest text(): what 0 the FAULT (0 without one), 1 its place (NONE). NONE for another what.");
        PulledJersey x = new PulledJersey();
        C.due("fault(0) ahead of any text()", x.fault(0), 0);
        C.due("fault(1) ahead of any text()", x.fault(1), NONE);
        String[] texts = {"run", "run 1/0;", "run 1;".repeat(17), "run 1;", "!", ""};
        int[][] faults = {{1, 3}, {2, 6}, {3, 96}, {0, NONE}, {1, 0}, {0, NONE}};
        for (int i = 0; i < texts.length; i++) {
            Checks.tell(x, texts[i]);
            C.due("fault(0) of " + texts[i], x.fault(0), faults[i][0]);
            C.due("fault(1) of " + texts[i], x.fault(1), faults[i][1]);
        }
        Checks.tell(x, "run ");
        for (int what : new int[] {-1, 2, 3, MIN, MAX}) {
            C.due("fault(" + what + ")", x.fault(what), NONE);
        }
        x.feed(0, 0, 0, 0, 0);
        x.end(0);
        C.due("fault(1) behind feed and end", x.fault(1), 4);
    }

    private static void of() {
        C.sentence("Of a STITCH what 0 KIND, 1 HERE (1, 0), 2 CAUGHT (1, 0), 3 HELD (1, 0), 4 its place in THE THREAD,"
            + " 5 ODDS (0, if it is not LOOSE), 6 WOUND (1, 0). NONE if there is none such, or another what.");
        PulledJersey x = Worn.make();
        int[] gone = {0, 0, 0, 0, 14, 0, 1};
        int[] loose = {0, 1, 0, 0, 4, 3, 0};
        int[] held = {0, 1, 1, 1, 1, 0, 0};
        for (int what = 0; what < 7; what++) {
            C.due("of(20, " + what + "), GONE", x.of(20, what), gone[what]);
            C.due("of(4, " + what + "), LOOSE", x.of(4, what), loose[what]);
            C.due("of(1, " + what + "), HELD", x.of(1, what), held[what]);
        }
        for (int what : new int[] {-1, 7, 8, MIN, MAX}) {
            C.due("of(4, " + what + ")", x.of(4, what), NONE);
        }
        for (int s : NO_STITCHES) {
            for (int what = -1; what <= 7; what++) {
                C.due("of(" + s + ", " + what + ")", x.of(s, what), NONE);
            }
        }
    }

    private static void at() {
        C.sentence("At place k what 0 the STITCH, 1 1 if there is a CUT behind it, else 0,"
            + " 2 1 if it is an END by the way 0, 3 by the way 1, else 0. NONE if there is none such, or another what.");
        PulledJersey x = Worn.make();
        int[][] due = {{0, 0, 0, 0, 1}, {3, 3, 1, 1, 0}, {4, 4, 0, 0, 1}, {8, 9, 1, 1, 0}, {9, 8, 0, 0, 1},
            {13, 19, 0, 0, 0}, {14, 20, 0, 1, 0}};
        for (int[] one : due) {
            for (int what = 0; what < 4; what++) {
                C.due("at(" + one[0] + ", " + what + ")", x.at(one[0], what), one[what + 1]);
            }
        }
        for (int what : new int[] {-1, 4, 5, MIN, MAX}) {
            C.due("at(0, " + what + ")", x.at(0, what), NONE);
        }
        for (int k : NO_PLACES) {
            for (int what = -1; what <= 4; what++) {
                C.due("at(" + k + ", " + what + ")", x.at(k, what), NONE);
            }
        }
    }

    private static void wound() {
        C.sentence("The i-th LENGTH that was wound; NONE if there is none such.");
        PulledJersey x = new PulledJersey();
        C.due("wound(0) of none", x.wound(0), NONE);
        x.set(2, 0, 0);
        x.pull(15, 0, 2);
        x.pull(15, 0, 1);
        C.due("wound(0)", x.wound(0), 6);
        C.due("wound(1)", x.wound(1), 3);
        for (int i : new int[] {-1, 2, 3, 19, 20, 32, MIN, MAX}) {
            C.due("wound(" + i + ")", x.wound(i), NONE);
        }
    }

    private static void book() {
        C.sentence("Of line i of THE BOOK what 0 HOUR, 1 the STITCH, 2 how. NONE if there is none such, or another what.");
        PulledJersey x = new PulledJersey();
        for (int what = 0; what < 3; what++) {
            C.due("book(0, " + what + ") of none", x.book(0, what), NONE);
        }
        x.hours(3);
        x.gone(9);
        int[] line = {3, 9, 0};
        for (int what = 0; what < 3; what++) {
            C.due("book(0, " + what + ")", x.book(0, what), line[what]);
            for (int i : new int[] {-1, 1, 2, 99, 100, 128, MIN, MAX}) {
                C.due("book(" + i + ", " + what + ")", x.book(i, what), NONE);
            }
        }
        for (int what : new int[] {-1, 3, 4, MIN, MAX}) {
            C.due("book(0, " + what + ")", x.book(0, what), NONE);
        }
    }

    private static void runs() {
        C.sentence("RUNS what 0 how many, 1 the least row of them (NONE). NONE if one can't be, or another what.");
        PulledJersey x = new PulledJersey();
        C.due("runs(27, 0)", x.runs(27, 0), 3);
        C.due("runs(27, 1)", x.runs(27, 1), 0);
        C.due("runs(0, 0)", x.runs(0, 0), 0);
        C.due("runs(0, 1)", x.runs(0, 1), NONE);
        for (int what : new int[] {-1, 2, 3, MIN, MAX}) {
            C.due("runs(27, " + what + ")", x.runs(27, what), NONE);
        }
        PulledJersey y = Worn.make();
        for (int s : NO_STITCHES) {
            C.due("runs(" + s + ", 0)", y.runs(s, 0), NONE);
            C.due("runs(" + s + ", 1)", y.runs(s, 1), NONE);
        }
        C.due("runs(20, 0), GONE", y.runs(20, 0), NONE);
    }

    private static void save() {
        C.sentence("SAVE what 0 how many, 1 .. 3 the loops (NONE). NONE if one can't be, or another what.");
        PulledJersey x = new PulledJersey();
        x.gone(24);
        for (int n = 0; n <= 3; n++) {
            C.due("save(" + n + ", 0)", x.save(n, 0), n == 0 ? 3 : 0);
            for (int what = n + 1; what <= 3; what++) {
                C.due("save(" + n + ", " + what + ")", x.save(n, what), NONE);
            }
        }
        C.due("save(1, 1)", x.save(1, 1), 16);
        C.due("save(2, 2)", x.save(2, 2), 16);
        C.due("save(3, 3)", x.save(3, 3), 16);
        for (int wrong : new int[] {-1, 4, 5, MIN, MAX}) {
            for (int right = 0; right <= 3; right++) {
                C.due("save(" + wrong + ", " + right + ")", x.save(wrong, right), NONE);
                C.due("save(" + right + ", " + wrong + ")", x.save(right, wrong), NONE);
            }
        }
    }

    private static void comes() {
        C.sentence("COMES what 0 how many, 1 the place (NONE). NONE if one can't be, or another what.");
        PulledJersey x = Worn.make();
        C.due("comes(14, 0, 0)", x.comes(14, 0, 0), 4);
        C.due("comes(14, 0, 1), at a CUT", x.comes(14, 0, 1), NONE);
        C.due("comes(0, 1, 0)", x.comes(0, 1, 0), 0);
        C.due("comes(0, 1, 1)", x.comes(0, 1, 1), 1);
        for (int what : new int[] {-1, 2, 3, MIN, MAX}) {
            C.due("comes(14, 0, " + what + ")", x.comes(14, 0, what), NONE);
            C.due("comes(0, 1, " + what + ")", x.comes(0, 1, what), NONE);
        }
        for (int what = 0; what <= 1; what++) {
            for (int way : new int[] {-1, 2, MIN, MAX}) {
                C.due("comes(14, " + way + ", " + what + ")", x.comes(14, way, what), NONE);
            }
            for (int k : NO_PLACES) {
                C.due("comes(" + k + ", 0, " + what + ")", x.comes(k, 0, what), NONE);
                C.due("comes(" + k + ", 1, " + what + ")", x.comes(k, 1, what), NONE);
            }
            for (int k : new int[] {0, 1, 4, 7, 9, 13}) {
                C.due("comes(" + k + ", 0, " + what + "), no END", x.comes(k, 0, what), NONE);
            }
            for (int k : new int[] {1, 3, 5, 8, 10, 14}) {
                C.due("comes(" + k + ", 1, " + what + "), no END", x.comes(k, 1, what), NONE);
            }
        }
    }

    private static void all() {
        C.sentence("ALL what 0 the place, 1 the way. NONE if there is none (nothing is HERE: NONE), or another what.");
        PulledJersey x = Checks.cloth(2, 2);
        C.due("all(0), none", x.all(0), NONE);
        C.due("all(1), none", x.all(1), NONE);
        x.set(2, 0, 0);
        C.due("all(0)", x.all(0), 3);
        C.due("all(1)", x.all(1), 0);
        for (int what : new int[] {-1, 2, 3, MIN, MAX}) {
            C.due("all(" + what + ")", x.all(what), NONE);
        }
        x.pull(3, 0, 36);
        C.due("all(0), nothing is HERE", x.all(0), NONE);
        C.due("all(1), nothing is HERE", x.all(1), NONE);
    }

    private static void part() {
        C.sentence("PART; NONE if one can't be.");
        PulledJersey x = Checks.cloth(5, 3);
        C.due("part(0, 4, 0, 2), the whole", x.part(0, 4, 0, 2), 0);
        C.due("part(0, 0, 0, 0), the first", x.part(0, 0, 0, 0), 1);
        C.due("part(4, 4, 2, 2), the last", x.part(4, 4, 2, 2), 1);
        int[][] wrong = {{-1, 0, 0, 0}, {0, 5, 0, 0}, {0, 0, -1, 0}, {0, 0, 0, 3}, {1, 0, 0, 0}, {0, 0, 1, 0}, {4, 3, 0, 2},
            {0, 4, 2, 1}, {5, 5, 0, 0}, {0, 0, 3, 3}, {5, 6, 0, 0}, {0, 0, 3, 4}, {-1, -1, 0, 0}, {0, 0, -1, -1},
            {MIN, MAX, MIN, MAX}, {0, MAX, 0, 0}, {0, 0, 0, MAX}, {MIN, 0, 0, 0}, {0, 0, MIN, 0}, {MAX, MIN, 0, 0},
            {32, 32, 0, 0}, {0, 0, 8, 8}, {0, 63, 0, 0}, {0, 64, 0, 0}};
        for (int[] one : wrong) {
            C.due("part(" + one[0] + ", " + one[1] + ", " + one[2] + ", " + one[3] + ")",
                x.part(one[0], one[1], one[2], one[3]), NONE);
        }
        PulledJersey y = Checks.cloth(6, 6);
        C.due("part(0, 5, 0, 5)", y.part(0, 5, 0, 5), 0);
        C.due("part(5, 5, 5, 5)", y.part(5, 5, 5, 5), 2);
        C.due("part(0, 0, 5, 5)", y.part(0, 0, 5, 5), 1);
        C.due("part(0, 6, 0, 5)", y.part(0, 6, 0, 5), NONE);
        C.due("part(0, 5, 0, 6)", y.part(0, 5, 0, 6), NONE);
    }

    private static void join() {
        C.sentence("JOIN; NONE if they are not enough, or v is below 1.");
        PulledJersey x = new PulledJersey();
        for (int v : new int[] {MIN, -1, 0, 1, MAX}) {
            C.due("join(" + v + ") of none", x.join(v), NONE);
        }
        x.set(2, 0, 0);
        x.pull(15, 0, 1);
        int[][] due = {{MIN, NONE}, {-1, NONE}, {0, NONE}, {1, 1}, {3, 1}, {4, NONE}, {MAX, NONE}};
        for (int[] one : due) {
            C.due("join(" + one[0] + ") of 3", x.join(one[0]), one[1]);
        }
        // All twenty of them, some as long as others.
        for (int i = 1; i < 20; i++) {
            x.set(3, 24, 0);
            x.set(0, 24, i < 10 ? 2 : 0);
            x.pull(15, 0, 1);
        }
        // Eleven of 3 and nine of 2.
        C.due("join(33)", x.join(33), 11);
        C.due("join(34)", x.join(34), 12);
        C.due("join(51)", x.join(51), 20);
        C.due("join(52)", x.join(52), NONE);
    }

    private static void quiet() {
        C.sentence("`int quiet()`: QUIET.");
        PulledJersey x = Checks.cloth(6, 6);
        C.due("none LOOSE", x.quiet(), 1000000);
        for (int k = 0; k < 36; k++) {
            x.set(0, x.at(k, 0), 2);
        }
        x.set(2, 0, 0);
        // All 36 are LOOSE at 500: halved twenty times it is nothing.
        C.due("all LOOSE", x.quiet(), 0);
        Checks.tell(x, "run 0;");
        C.due("all LOOSE at ODDS 0", x.quiet(), 1000000);
        Checks.tell(x, "run 1000 when row=5 and column=5;run 0;");
        C.due("the last sure to go", x.quiet(), 0);
        Checks.tell(x, "run 1000 when row=0 and column=0;run 0;");
        C.due("the first sure to go", x.quiet(), 0);
    }

    private static void first() {
        C.sentence("FIRST what 0 how many, 1 the least (NONE). NONE for another what.");
        PulledJersey x = new PulledJersey();
        C.due("first(0) of none", x.first(0), 0);
        C.due("first(1) of none", x.first(1), NONE);
        x.gone(0);
        C.due("first(0)", x.first(0), 1);
        C.due("first(1)", x.first(1), 0);
        for (int what : new int[] {-1, 2, 3, MIN, MAX}) {
            C.due("first(" + what + ")", x.first(what), NONE);
        }
        PulledJersey y = Checks.cloth(6, 6);
        for (int s = 45; s > 0; s -= 8) {
            y.gone(s);
        }
        C.due("first(1), the last STITCH of all", y.first(1), 45);
    }

    private static void undo() {
        C.sentence("UNDO: true; false if there is nothing.");
        PulledJersey x = new PulledJersey();
        C.no("of a new one", x.undo());
        x.gone(0);
        C.yes("of one", x.undo());
        C.no("no more", x.undo());
        C.due("0 is HERE", x.of(0, 1), 1);
        PulledJersey twin = new PulledJersey();
        C.same("an undo() of nothing changed something", x, twin);
    }

    private static void image() {
        C.sentence("THE IMAGE is taken (true), or gone back to (false): true; false if there is none.");
        PulledJersey x = new PulledJersey();
        x.gone(0);
        C.no("image(false), none", x.image(false));
        C.due("0 is GONE still", x.of(0, 1), 0);
        C.due("what can be undone stays", x.look(10), 1);
        C.yes("image(true)", x.image(true));
        C.due("what can be undone stays", x.look(10), 1);
        C.yes("image(false)", x.image(false));
        C.due("0 is GONE still", x.of(0, 1), 0);
        C.yes("image(true) once more", x.image(true));
        C.yes("image(false) once more", x.image(false));
    }

    private static void look() {
        C.sentence("What 0 W, 1 H, 2 BOUND (1, 0), 3 how many are GONE, 4 LENGTHS wound, 5 lines of THE BOOK, 6 HOUR,"
            + " 7 STATE, 8 CUTS, 9 lines of THE LAW, 10 what can be undone, 11 all LENGTHS added. NONE for another what.");
        PulledJersey x = Worn.make();
        int[] due = {5, 3, 0, 7, 1, 7, 3, 955863294, 2, 3, 6, 6};
        for (int what = 0; what < 12; what++) {
            C.due("look(" + what + ")", x.look(what), due[what]);
        }
        for (int what : new int[] {-1, 12, 13, MIN, MAX}) {
            C.due("look(" + what + ")", x.look(what), NONE);
        }
    }

    /** What they answer is free, but they end and throw nothing: LANGUAGE.md, rule 7. */
    private static void behindTheLastCall() {
        C.sentence("Nothing is promised beyond the answers and state changes described above,"
            + " and nothing about an object after its 512th call.");
        PulledJersey x = Checks.cloth(6, 6);
        x.set(2, 0, 0);
        int answers = 0;
        for (int i = 0; i < 600; i++) {
            answers += n(x.set(3, 40, 0)) + n(x.pull(35, 0, 1) == 1) > 0 ? 1 : 0;
            x.hours(100);
            x.feed(i, i, i, i, i);
            x.image(i % 50 == 0);
        }
        C.due("calls that ended", answers, 600);
    }
}
