/** The bounds that the document's first words and its terms of THE CLOTH name, sentence by sentence. */
public final class ClothBoundTests {
    private static final int NONE = PulledJersey.NONE;
    private static final Checks C = new Checks("ClothBoundTests");

    public static void main(String[] args) {
        calls();
        quotients();
        stateAtFirst();
        drawsWrap();
        drawsHaveNoSign();
        stitches();
        rowsFromBelow();
        sides();
        anewForgets();
        anewKeeps();
        numbers();
        kinds();
        kindsOfEach();
        here();
        wound();
        caught();
        caughtOfEach();
        bound();
        rowZeroIsDrawnThroughNone();
        plain();
        crossed();
        leftOut();
        doubled();
        heldIsHere();
        heldByCatching();
        heldByBinding();
        heldByDrawing();
        heldByNoneThatIsGone();
        loose();
        thread();
        cuts();
        ends();
        endsOfOneThread();
        hour();
        lengthOfKinds();
        twentyLengths();
        C.close();
    }

    private static void calls() {
        C.sentence("An object is used for at most 512 calls after it has been made");
        PulledJersey x = new PulledJersey();
        for (int i = 0; i < 255; i++) {
            x.gone(0);
            x.set(3, 0, 0);
        }
        C.yes("gone(1), the 511th call", x.gone(1));
        C.due("look(3), the 512th call", x.look(3), 1);
    }

    private static void quotients() {
        C.sentence("Quotients go downwards.");
        PulledJersey x = new PulledJersey();
        Checks.tell(x, "run 333;");
        x.gone(24);
        x.gone(25);
        x.gone(26);
        // 667000, then 444889, then 296740 and 963 parts of 1000.
        C.due("quiet()", x.quiet(), 296740);
    }

    private static void stateAtFirst() {
        C.sentence("STATE of draws (an int, 0 at first)");
        PulledJersey x = new PulledJersey();
        C.due("look(7)", x.look(7), 0);
        C.due("state(max)", x.state(Integer.MAX_VALUE), 0);
        C.due("look(7)", x.look(7), Integer.MAX_VALUE);
        C.due("state(min)", x.state(Integer.MIN_VALUE), Integer.MAX_VALUE);
        C.due("look(7)", x.look(7), Integer.MIN_VALUE);
    }

    /** One LOOSE loop and one hour: 16 goes, if the draw is below the odds. */
    private static PulledJersey drawn(int state, int odds) {
        PulledJersey x = new PulledJersey();
        Checks.tell(x, "run " + odds + ";");
        x.gone(24);
        x.state(state);
        x.hours(1);
        return x;
    }

    private static void drawsWrap() {
        C.sentence("it becomes 1664525 times itself + 1013904223 (ints, which wrap)");
        int[][] steps = {{0, 1013904223}, {1, 1015568748}, {-1, 1012239698}, {Integer.MAX_VALUE, -1135243950},
            {Integer.MIN_VALUE, -1133579425}};
        for (int[] one : steps) {
            C.due("look(7) behind a draw from " + one[0], drawn(one[0], 1).look(7), one[1]);
        }
    }

    private static void drawsHaveNoSign() {
        C.sentence("then it is its highest 24 bits (without sign) modulo m");
        int[][] draws = {{0, 563}, {-1, 61}, {Integer.MAX_VALUE, 669}, {Integer.MIN_VALUE, 171}, {457, 0}, {945, 1},
            {1188, 999}};
        for (int[] one : draws) {
            C.due("16 at odds of the draw from " + one[0], drawn(one[0], one[1]).of(16, 1), 1);
            C.due("16 at odds one above the draw from " + one[0], drawn(one[0], one[1] + 1).of(16, 1), 0);
        }
    }

    private static void stitches() {
        C.sentence("STITCHES x 0 .. W - 1, rows y 0 .. H - 1 from below");
        for (int w = 2; w <= 6; w++) {
            for (int h = 2; h <= 6; h++) {
                PulledJersey x = Checks.cloth(w, h);
                for (int s = -9; s < 80; s++) {
                    boolean isOne = s >= 0 && s % 8 < w && s / 8 < h;
                    C.due("of(" + s + ", 1) of " + w + " by " + h, x.of(s, 1), isOne ? 1 : NONE);
                }
            }
        }
    }

    private static void rowsFromBelow() {
        C.sentence("rows y 0 .. H - 1 from below");
        for (int h = 2; h <= 6; h++) {
            PulledJersey x = Checks.cloth(3, h);
            x.set(2, 0, 0);
            for (int y = 0; y < h; y++) {
                C.due("row " + y + " of " + h + " held, unbound", x.of(8 * y, 3), y == h - 1 ? 0 : 1);
            }
        }
    }

    private static void sides() {
        C.sentence("(W, H 2 .. 6, 4 each at first;");
        PulledJersey x = new PulledJersey();
        C.due("W at first", x.look(0), 4);
        C.due("H at first", x.look(1), 4);
        for (int side = -1; side <= 8; side++) {
            boolean isOne = side >= 2 && side <= 6;
            C.due("cloth(" + side + ", 3)", x.cloth(side, 3), isOne);
            C.due("cloth(3, " + side + ")", x.cloth(3, side), isOne);
        }
    }

    private static void anewForgets() {
        C.sentence("told anew: all is as at first but W, H, STATE, the TAPE, fault() and THE IMAGE)");
        PulledJersey x = Worn.make();
        x.cloth(5, 3);
        PulledJersey first = Checks.cloth(5, 3);
        first.state(x.look(7));
        // A fault as Worn has it; the law stays empty.
        Checks.tell(first, "run ;");
        C.same("cloth(5, 3) of a worn one", x, first);
        C.no("undo()", x.undo());
        x.gone(20);
        C.due("ODDS by no line", x.of(12, 5), 500);
        PulledJersey y = Worn.make();
        y.cloth(6, 6);
        PulledJersey second = Checks.cloth(6, 6);
        second.state(y.look(7));
        Checks.tell(second, "run ;");
        C.same("cloth(6, 6) of a worn one", y, second);
    }

    private static void anewKeeps() {
        C.sentence("all is as at first but W, H, STATE, the TAPE, fault() and THE IMAGE)");
        PulledJersey x = Worn.make();
        int state = x.look(7);
        x.cloth(2, 6);
        C.due("W", x.look(0), 2);
        C.due("H", x.look(1), 6);
        C.due("STATE", x.look(7), state);
        C.no("one more byte on the TAPE", x.end(Worn.TAPE + 1));
        C.yes("all bytes on the TAPE", x.end(Worn.TAPE));
        C.due("fault(0)", x.fault(0), 1);
        C.due("fault(1)", x.fault(1), 4);
        C.due("the TAPE is the text that was fed", x.text(), 1);
        PulledJersey twin = Worn.make();
        Checks.tell(twin, "run 77;");
        C.yes("THE IMAGE", x.image(false));
        twin.image(false);
        C.same("THE IMAGE of another cloth", x, twin);
    }

    private static void numbers() {
        C.sentence(", told by 8 y + x.");
        PulledJersey x = Checks.cloth(3, 3);
        int[] places = {0, 1, 2, NONE, NONE, NONE, NONE, NONE, 5, 4, 3, NONE, NONE, NONE, NONE, NONE, 6, 7, 8, NONE};
        for (int s = 0; s < places.length; s++) {
            C.due("of(" + s + ", 4)", x.of(s, 4), places[s]);
        }
    }

    private static void kinds() {
        C.sentence("Each has a KIND: 0 plain (at first), 1 crossed, 2 left out, 3 doubled;");
        PulledJersey x = Checks.cloth(6, 6);
        for (int k = 0; k < 36; k++) {
            C.due("KIND at first at place " + k, x.of(x.at(k, 0), 0), 0);
        }
        for (int v = -1; v <= 4; v++) {
            C.due("set(0, 45, " + v + ")", x.set(0, 45, v), v >= 0 && v <= 3);
            C.due("KIND behind it", x.of(45, 0), Math.max(0, Math.min(3, v)));
        }
    }

    private static int someKind(int k, int turn) {
        return (k + k / 6 + turn) % 4;
    }

    private static void kindsOfEach() {
        C.sentence("Each has a KIND:");
        PulledJersey x = Checks.cloth(6, 6);
        for (int k = 0; k < 36; k++) {
            x.set(0, x.at(k, 0), someKind(k, 0));
        }
        for (int told = 0; told < 4; told++) {
            x.set(0, x.at(9 * told, 0), someKind(9 * told, 1));
            for (int k = 0; k < 36; k++) {
                boolean isAnother = k % 9 == 0 && k <= 9 * told;
                C.due("KIND at place " + k, x.of(x.at(k, 0), 0), someKind(k, isAnother ? 1 : 0));
            }
        }
    }

    private static void here() {
        C.sentence("is HERE (at first) or GONE;");
        PulledJersey x = Checks.cloth(6, 6);
        for (int k = 0; k < 36; k++) {
            C.due("HERE at first at place " + k, x.of(x.at(k, 0), 1), 1);
        }
        C.due("none GONE", x.look(3), 0);
        for (int k = 0; k < 36; k++) {
            x.gone(x.at(k, 0));
        }
        C.due("all GONE", x.look(3), 36);
        C.due("HERE", x.of(45, 1), 0);
    }

    private static void wound() {
        C.sentence("WOUND or not (not at first: its thread is away, too);");
        PulledJersey x = Checks.cloth(2, 2);
        x.set(2, 0, 0);
        C.due("not at first", x.of(8, 6), 0);
        C.due("its thread", x.part(0, 0, 1, 1), 1);
        x.gone(8);
        C.due("GONE is not WOUND", x.of(8, 6), 0);
        C.due("its thread is there", x.part(0, 0, 1, 1), 1);
        x.set(3, 8, 0);
        x.pull(3, 0, 1);
        C.due("WOUND", x.of(8, 6), 1);
        C.due("its thread is away", x.part(0, 0, 1, 1), 0);
    }

    private static void caught() {
        C.sentence("CAUGHT or not (not at first).");
        PulledJersey x = Checks.cloth(6, 6);
        for (int k = 0; k < 36; k++) {
            C.due("CAUGHT at first at place " + k, x.of(x.at(k, 0), 2), 0);
        }
        x.set(1, 45, 1);
        C.due("CAUGHT", x.of(45, 2), 1);
        C.due("that beside it", x.of(44, 2), 0);
    }

    private static void caughtOfEach() {
        C.sentence("CAUGHT or not (not at first).");
        PulledJersey x = Checks.cloth(6, 6);
        for (int k = 0; k < 36; k += 2) {
            x.set(1, x.at(k, 0), 1);
        }
        x.set(1, x.at(7, 0), 1);
        x.set(1, x.at(8, 0), 0);
        x.set(1, x.at(9, 0), 0);
        for (int k = 0; k < 36; k++) {
            int want = k == 7 ? 1 : k == 8 ? 0 : 1 - k % 2;
            C.due("CAUGHT at place " + k, x.of(x.at(k, 0), 2), want);
        }
    }

    private static void bound() {
        C.sentence("BOUND or not (bound at first): the uppermost row.");
        for (int h = 2; h <= 6; h++) {
            PulledJersey x = Checks.cloth(2, h);
            int top = 8 * (h - 1);
            C.due("BOUND at first", x.look(2), 1);
            C.due("the uppermost is held", x.of(top, 3), 1);
            x.gone(top);
            C.due("that under it is not bound", x.of(top - 8, 3), 0);
            C.due("the other of the row is", x.of(top + 1, 3), 1);
            x.set(2, 0, 0);
            C.due("not BOUND", x.look(2), 0);
            C.due("the other of the row is not", x.of(top + 1, 3), 0);
        }
    }

    private static void rowZeroIsDrawnThroughNone() {
        C.sentence("a STITCH of row y above 0 is drawn through loops of row y - 1");
        for (int kind = 0; kind <= 3; kind++) {
            PulledJersey x = Checks.cloth(6, 6);
            x.set(2, 0, 0);
            for (int c = 0; c < 6; c++) {
                x.set(0, c, kind);
            }
            for (int c = 0; c < 6; c++) {
                C.due("of(" + (40 + c) + ", 3) by row 0 of kind " + kind, x.of(40 + c, 3), 0);
                C.due("of(" + (8 + c) + ", 3) by row 2, not row 0", x.of(8 + c, 3), 1);
                x.gone(16 + c);
            }
            for (int c = 0; c < 6; c++) {
                C.due("of(" + (8 + c) + ", 3) by none", x.of(8 + c, 3), 0);
            }
        }
        for (int y = 1; y < 6; y++) {
            PulledJersey x = Checks.cloth(6, 6);
            x.gone(8 * y + 5);
            for (int under = 0; under < 6; under++) {
                int want = under == y - 1 || under == y ? 0 : 1;
                C.due("row " + under + " held without a stitch of row " + y, x.of(8 * under + 5, 3), want);
            }
        }
    }

    /** Bit x for each loop of row 0 that is held, if of row 1 only this stitch of the kind is HERE. */
    private static int heldBy(int w, int x, int kind) {
        PulledJersey cloth = Checks.cloth(w, 2);
        for (int c = 0; c < w; c++) {
            if (c != x) {
                cloth.gone(8 + c);
            }
        }
        cloth.set(0, 8 + x, kind);
        int held = 0;
        for (int c = 0; c < w; c++) {
            held |= cloth.of(c, 3) << c;
        }
        return held;
    }

    private static void plain() {
        C.sentence("plain: that of its x;");
        for (int w = 2; w <= 6; w++) {
            for (int x = 0; x < w; x++) {
                C.due("x " + x + " of " + w, heldBy(w, x, 0), 1 << x);
            }
        }
    }

    private static void crossed() {
        C.sentence("crossed: that of x + 1, if x is even, of x - 1, if it is odd (its own x, if there is none such);");
        int[][] through = {{1, 0}, {1, 0, 2}, {1, 0, 3, 2}, {1, 0, 3, 2, 4}, {1, 0, 3, 2, 5, 4}};
        for (int w = 2; w <= 6; w++) {
            for (int x = 0; x < w; x++) {
                C.due("x " + x + " of " + w, heldBy(w, x, 1), 1 << through[w - 2][x]);
            }
        }
    }

    private static void leftOut() {
        C.sentence("left out: none;");
        for (int w = 2; w <= 6; w++) {
            for (int x = 0; x < w; x++) {
                C.due("x " + x + " of " + w, heldBy(w, x, 2), 0);
            }
        }
    }

    private static void doubled() {
        C.sentence("doubled: those of x and x + 1 (if there is one).");
        for (int w = 2; w <= 6; w++) {
            for (int x = 0; x < w - 1; x++) {
                C.due("x " + x + " of " + w, heldBy(w, x, 3), 3 << x);
            }
            C.due("the last x of " + w, heldBy(w, w - 1, 3), 1 << w - 1);
        }
    }

    private static void heldIsHere() {
        C.sentence("A loop is HELD, if it is HERE, and CAUGHT, or in the uppermost row that is BOUND, or");
        PulledJersey x = new PulledJersey();
        x.set(1, 0, 1);
        x.gone(0);
        C.due("CAUGHT and drawn through, but GONE", x.of(0, 3), 0);
        x.gone(24);
        C.due("BOUND, but GONE", x.of(24, 3), 0);
        x.gone(9);
        C.due("drawn through, but GONE", x.of(9, 3), 0);
    }

    private static void heldByCatching() {
        C.sentence("if it is HERE, and CAUGHT,");
        PulledJersey x = new PulledJersey();
        x.set(2, 0, 0);
        C.due("neither", x.of(24, 3), 0);
        x.set(1, 24, 1);
        C.due("CAUGHT alone", x.of(24, 3), 1);
        x.set(1, 24, 0);
        C.due("no more", x.of(24, 3), 0);
    }

    private static void heldByBinding() {
        C.sentence("or in the uppermost row that is BOUND,");
        PulledJersey x = Checks.cloth(6, 6);
        for (int c = 0; c < 6; c++) {
            C.due("BOUND alone", x.of(40 + c, 3), 1);
        }
        x.set(2, 0, 0);
        for (int c = 0; c < 6; c++) {
            C.due("not BOUND", x.of(40 + c, 3), 0);
        }
    }

    private static void heldByDrawing() {
        C.sentence("or some STITCH that is HERE is DRAWN through it.");
        PulledJersey x = new PulledJersey();
        x.set(0, 24, 3);
        C.due("two are drawn through 17", x.of(17, 3), 1);
        x.gone(25);
        C.due("one is HERE", x.of(17, 3), 1);
        x.gone(24);
        C.due("none is HERE", x.of(17, 3), 0);
    }

    private static void heldByNoneThatIsGone() {
        C.sentence("or some STITCH that is HERE is DRAWN through it.");
        for (int w = 2; w <= 6; w++) {
            for (int kind = 0; kind <= 3; kind++) {
                PulledJersey x = Checks.cloth(w, 3);
                for (int c = 0; c < w; c++) {
                    x.set(0, 8 + c, kind);
                    x.gone(8 + c);
                }
                for (int c = 0; c < w; c++) {
                    C.due("of(" + c + ", 3) under a row of kind " + kind + " that is GONE", x.of(c, 3), 0);
                }
            }
        }
    }

    private static void loose() {
        C.sentence("LOOSE: HERE and not HELD.");
        PulledJersey x = new PulledJersey();
        C.due("HELD has no ODDS", x.of(16, 5), 0);
        C.due("nothing is LOOSE", x.quiet(), 1000000);
        x.gone(24);
        C.due("LOOSE has ODDS", x.of(16, 5), 500);
        C.due("one is LOOSE", x.quiet(), 500000);
        x.gone(16);
        C.due("GONE has no ODDS", x.of(16, 5), 0);
        C.due("the next is LOOSE", x.quiet(), 500000);
    }

    private static void thread(int w, int h, int... stitches) {
        PulledJersey x = Checks.cloth(w, h);
        for (int k = 0; k < w * h; k++) {
            C.due("at(" + k + ", 0) of " + w + " by " + h, x.at(k, 0), stitches[k]);
            C.due("of(" + stitches[k] + ", 4) of " + w + " by " + h, x.of(stitches[k], 4), k);
        }
        C.due("ahead of the first", x.at(-1, 0), NONE);
        C.due("behind the last of " + w + " by " + h, x.at(w * h, 0), NONE);
    }

    private static void thread() {
        C.sentence("row 0 by rising x, row 1 by falling x, and so on in turns: place k 0 .. W H - 1.");
        thread(2, 2, 0, 1, 9, 8);
        thread(2, 3, 0, 1, 9, 8, 16, 17);
        thread(3, 2, 0, 1, 2, 10, 9, 8);
        thread(6, 6, 0, 1, 2, 3, 4, 5, 13, 12, 11, 10, 9, 8, 16, 17, 18, 19, 20, 21, 29, 28, 27, 26, 25, 24,
            32, 33, 34, 35, 36, 37, 45, 44, 43, 42, 41, 40);
    }

    private static void cuts() {
        C.sentence("A CUT is behind place k (0 .. W H - 2; none at first).");
        for (int w = 2; w <= 6; w++) {
            for (int h = 2; h <= 6; h++) {
                PulledJersey x = Checks.cloth(w, h);
                C.due("none at first", x.look(8), 0);
                for (int k = -1; k <= w * h; k++) {
                    C.due("cut(" + k + ") of " + w + " by " + h, x.cut(k), k >= 0 && k <= w * h - 2);
                }
                C.due("all that can be", x.look(8), w * h - 1);
                C.due("none behind the last", x.at(w * h - 1, 1), 0);
            }
        }
    }

    private static void ends(PulledJersey x, String when, String back, String on) {
        for (int k = 0; k < back.length(); k++) {
            C.due("at(" + k + ", 2) " + when, x.at(k, 2), back.charAt(k) - '0');
            C.due("at(" + k + ", 3) " + when, x.at(k, 3), on.charAt(k) - '0');
        }
    }

    private static void ends() {
        C.sentence("An END: of place k by the way 1 (on) if k is 0 or there is a CUT behind k - 1;"
            + " by the way 0 (back) if k is the last or there is a CUT behind k.");
        PulledJersey x = Checks.cloth(2, 3);
        ends(x, "at first", "000001", "100000");
        x.cut(2);
        ends(x, "with a CUT behind 2", "001001", "100100");
        x.cut(0);
        ends(x, "with one behind 0", "101001", "110100");
        x.cut(4);
        ends(x, "with one behind 4", "101011", "110101");
        x.cut(3);
        ends(x, "with one behind 3", "101111", "110111");
    }

    private static void endsOfOneThread() {
        C.sentence("by the way 0 (back) if k is the last or there is a CUT behind k.");
        for (int w = 2; w <= 6; w++) {
            for (int h = 2; h <= 6; h++) {
                PulledJersey x = Checks.cloth(w, h);
                for (int k = 0; k < w * h; k++) {
                    C.due("at(" + k + ", 2)", x.at(k, 2), k == w * h - 1 ? 1 : 0);
                    C.due("at(" + k + ", 3)", x.at(k, 3), k == 0 ? 1 : 0);
                }
            }
        }
    }

    private static void hour() {
        C.sentence("HOUR 0 .. 9999 (0 at first).");
        PulledJersey x = new PulledJersey();
        C.due("at first", x.look(6), 0);
        for (int i = 0; i < 99; i++) {
            x.hours(100);
        }
        C.due("hours(99)", x.hours(99), 0);
        C.due("the last", x.look(6), 9999);
        C.due("no other behind it", x.hours(1), NONE);
        C.due("the last still", x.look(6), 9999);
    }

    private static void lengthOfKinds() {
        C.sentence("LENGTH of a STITCH of KIND 0 .. 3: 3, 4, 2, 5.");
        int[] lengths = {3, 4, 2, 5};
        for (int kind = 0; kind <= 3; kind++) {
            PulledJersey x = new PulledJersey();
            x.set(2, 0, 0);
            x.set(0, 24, kind);
            x.pull(15, 0, 1);
            C.due("of kind " + kind, x.wound(0), lengths[kind]);
        }
    }

    private static void twentyLengths() {
        C.sentence("LENGTHS wound (20 at most; no more are noted then).");
        PulledJersey x = new PulledJersey();
        x.set(2, 0, 0);
        C.due("none at first", x.look(4), 0);
        for (int i = 1; i <= 22; i++) {
            x.set(0, 24, i < 20 ? 0 : i == 20 ? 1 : 3);
            C.due("pull " + i, x.pull(15, 0, 1), 1);
            C.due("noted behind pull " + i, x.look(4), Math.min(20, i));
            C.due("WOUND all the same", x.of(24, 6), 1);
            x.set(3, 24, 0);
        }
        C.due("wound(19)", x.wound(19), 4);
        C.due("wound(20)", x.wound(20), NONE);
        C.due("all added", x.look(11), 19 * 3 + 4);
        C.due("joined of all", x.join(61), 20);
        C.due("no more than all", x.join(62), NONE);
    }
}
