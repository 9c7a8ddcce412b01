/** The bounds that the document's terms of ODDS, an HOUR, a PULL and THE BOOK name, sentence by sentence. */
public final class RunBoundTests {
    private static final int NONE = PulledJersey.NONE;
    private static final Checks C = new Checks("RunBoundTests");
    /** STATE behind no, one and two draws from 0; the first two draws of 1000 are 563 and 577. */
    private static final int[] STATES = {0, 1013904223, 1196435762};

    public static void main(String[] args) {
        oddsOfLines();
        oddsOfNone();
        oddsOfShorterLaw();
        oddsHeld();
        kindRowColumn();
        beside();
        below();
        hourOfOdds();
        goneInColumn();
        besideAndGoneByItsSides();
        hourGoesByNumbers();
        hourOfAll();
        looseAhead();
        drawOnlyAboveZero();
        belowOdds();
        behindAllDraws();
        hourIsOneMore();
        pullAtMost();
        pullByItsWay();
        pullPasses();
        pullUndoesLoose();
        pullStopsAheadOfHeld();
        pullStopsAtCut();
        pullStopsAtEnd();
        pullStopsAtCount();
        nothingWound();
        woundOnce();
        woundByAnotherEnd();
        oneLength();
        hundredLines();
        hundredthLineOfPull();
        hundredthLineOfHour();
        lineOfEach();
        linesInTheirOrder();
        linesOfTheLastHour();
        C.close();
    }

    private static void oddsOfLines() {
        C.sentence("E of the first line whose B is so, or that has none");
        C.odds("run 1;run 2;", 1);
        C.odds("run 1 when 1=1;run 2 when 1=1;", 1);
        C.odds("run 1 when 1=2;run 2 when 1=1;run 3;", 2);
        C.odds("run 1 when 1=2;run 2;run 3 when 1=1;", 2);
        C.odds("run 1 when 1=2;run 2 when 1=2;run 3;", 3);
    }

    private static void oddsOfNone() {
        C.sentence("(none: 500)");
        C.odds("", 500);
        C.odds("run 1 when 1=2;", 500);
        C.odds("run 1 when 1=2;".repeat(16), 500);
    }

    private static void oddsOfShorterLaw() {
        C.sentence("E of the first line whose B is so, or that has none (none: 500)");
        PulledJersey x = Checks.loose();
        Checks.tell(x, "run 1 when 1=2;run 2 when 1=1 and 1=1;run 3;");
        C.due("odds by three lines", x.of(10, 5), 2);
        Checks.tell(x, "run 1 when 1=2;");
        C.due("odds by one line that is not so", x.of(10, 5), 500);
        for (int signs = 0; signs < 9; signs++) {
            Checks.tell(x, "run 1" + "+1".repeat(signs) + ";");
            C.due("odds by a sum", x.of(10, 5), signs + 1);
            Checks.tell(x, "run 1 when 1=2;");
            C.due("odds behind it by a line that is not so", x.of(10, 5), 500);
        }
        Checks.tell(x, "");
        C.due("odds by no line", x.of(10, 5), 500);
    }

    private static void oddsHeld() {
        C.sentence("held to 0 .. 1000:");
        C.odds("run 0;", 0);
        C.odds("run 1;", 1);
        C.odds("run 999;", 999);
        C.odds("run 1000;", 1000);
        C.odds("run 1001;", 1000);
        C.odds("run 9999;", 1000);
        C.odds("run 0-1;", 0);
        C.odds("run 8192*8192*32;", 0);
        C.odds("run 8192*8192*32-1;", 1000);
    }

    private static void kindRowColumn() {
        C.sentence("kind; row; column;");
        PulledJersey x = Checks.cloth(6, 6);
        Checks.tell(x, "run 100*row+10*column+kind;");
        x.set(2, 0, 0);
        for (int kind = 0; kind <= 3; kind++) {
            x.set(0, 45, kind);
            C.due("of(45, 5)", x.of(45, 5), 550 + kind);
            x.set(0, 40, kind);
            C.due("of(40, 5)", x.of(40, 5), 500 + kind);
        }
        x.gone(8);
        C.due("of(0, 5)", x.of(0, 5), 0);
        x.gone(13);
        C.due("of(5, 5)", x.of(5, 5), 50);
    }

    private static void beside() {
        C.sentence("beside: how many of the two beside it in its row are HERE;");
        PulledJersey x = Checks.cloth(6, 6);
        Checks.tell(x, "run beside;");
        x.set(2, 0, 0);
        int[] all = {1, 2, 2, 2, 2, 1};
        for (int c = 0; c < 6; c++) {
            C.due("of(" + (40 + c) + ", 5)", x.of(40 + c, 5), all[c]);
        }
        x.gone(42);
        int[] some = {1, 1, 0, 1, 2, 1};
        for (int c = 0; c < 6; c++) {
            C.due("of(" + (40 + c) + ", 5) without 42", x.of(40 + c, 5), some[c]);
        }
        x.gone(44);
        C.due("none is", x.of(43, 5), 0);
        C.due("none is, at the border", x.of(45, 5), 0);
        // The last of a row and the first of the next one stand on the thread, not beside.
        PulledJersey y = Checks.cloth(2, 3);
        Checks.tell(y, "run beside;");
        y.gone(17);
        y.gone(8);
        C.due("of(9, 5)", y.of(9, 5), 0);
    }

    private static void below() {
        C.sentence("below: 1, if that below it (its x) is HERE, else 0;");
        PulledJersey x = Checks.cloth(3, 3);
        Checks.tell(x, "run 7+below;");
        x.gone(16);
        C.due("one is HERE", x.of(8, 5), 8);
        x.gone(0);
        C.due("none is HERE", x.of(8, 5), 7);
        x.gone(9);
        C.due("none is below row 0", x.of(1, 5), 7);
        x.gone(18);
        x.set(0, 10, 1);
        x.gone(1);
        C.due("its x, whatever it is drawn through", x.of(10, 5), 8);
        x.set(0, 10, 2);
        C.due("its x, if it is drawn through none", x.of(10, 5), 8);
    }

    private static void hourOfOdds() {
        C.sentence("below: 1, if that below it (its x) is HERE, else 0; hour;");
        PulledJersey x = new PulledJersey();
        x.set(2, 0, 0);
        Checks.tell(x, "run 5+hour when hour<2;run 0 when hour<9999;run 9;");
        C.due("hour 0", x.of(24, 5), 5);
        x.set(2, 0, 1);
        x.hours(1);
        x.set(2, 0, 0);
        C.due("hour 1", x.of(24, 5), 6);
        x.set(2, 0, 1);
        for (int i = 0; i < 99; i++) {
            x.hours(100);
        }
        x.hours(97);
        x.set(2, 0, 0);
        C.due("hour 9998", x.of(24, 5), 0);
        x.hours(1);
        C.due("hour 9999", x.of(24, 5), 9);
    }

    private static void goneInColumn() {
        C.sentence("gone: how many in its column are GONE.");
        PulledJersey x = Checks.cloth(6, 6);
        Checks.tell(x, "run gone;");
        x.set(2, 0, 0);
        C.due("none", x.of(45, 5), 0);
        for (int y = 0; y < 5; y++) {
            x.gone(8 * y + 5);
            C.due("so many", x.of(45, 5), y + 1);
            C.due("none of the column beside", x.of(44, 5), 0);
        }
    }

    private static void besideAndGoneByItsSides() {
        C.sentence("beside: how many of the two beside it in its row are HERE;");
        PulledJersey wide = unbound(6, 2);
        Checks.tell(wide, "run 10*gone+beside;");
        int[] beside = {1, 2, 2, 2, 2, 1};
        for (int c = 0; c < 6; c++) {
            C.due("of(" + (8 + c) + ", 5) of six by two", wide.of(8 + c, 5), beside[c]);
            wide.gone(c);
            C.due("of(" + (8 + c) + ", 5) over one that is GONE", wide.of(8 + c, 5), 10 + beside[c]);
        }
        // Row 0 is LOOSE where 8 and 9 went; what is CAUGHT, CUT or WOUND counts for nothing.
        PulledJersey low = unbound(6, 2);
        Checks.tell(low, "run 10*gone+beside;");
        low.cut(4);
        low.pull(11, 0, 2);
        low.set(1, 5, 1);
        C.due("of(0, 5) with 1 beside it", low.of(0, 5), 11);
        C.due("of(1, 5) with 0 and 2 beside it", low.of(1, 5), 12);
        low.gone(1);
        C.due("of(0, 5) with none beside it", low.of(0, 5), 10);
        PulledJersey high = unbound(2, 6);
        Checks.tell(high, "run 10*gone+beside;");
        for (int y = 0; y < 5; y++) {
            high.gone(8 * y + 1);
            C.due("of(41, 5) of two by six", high.of(41, 5), 10 * (y + 1) + 1);
            C.due("of(40, 5) of two by six", high.of(40, 5), 1);
        }
    }

    /** 8 and 11 are loose: in the row 8 comes first by its number, on the thread 11 does. */
    private static PulledJersey twoLoose(String law) {
        PulledJersey x = new PulledJersey();
        Checks.tell(x, law);
        x.gone(16);
        x.gone(19);
        x.hours(1);
        return x;
    }

    private static void hourGoesByNumbers() {
        C.sentence("An HOUR: STITCH by STITCH, 0 first:");
        PulledJersey x = twoLoose("run 564 when column=0;run 578;");
        C.due("8 at 564 by the draw 563", x.of(8, 1), 0);
        C.due("11 at 578 by the draw 577", x.of(11, 1), 0);
        C.due("the line of 8 first", x.book(2, 1), 8);
        C.due("the line of 11 behind it", x.book(3, 1), 11);
        PulledJersey y = twoLoose("run 563 when column=0;run 577;");
        C.due("8 at 563 by the draw 563", y.of(8, 1), 1);
        C.due("11 at 577 by the draw 577", y.of(11, 1), 1);
        C.due("two draws", y.look(7), STATES[2]);
    }

    private static void hourOfAll() {
        C.sentence("An HOUR: STITCH by STITCH, 0 first:");
        PulledJersey x = unbound(6, 6);
        for (int k = 0; k < 36; k++) {
            x.set(0, x.at(k, 0), 2);
        }
        Checks.tell(x, "run 1000;");
        C.due("all 36 are LOOSE and go", x.hours(1), 36);
        C.due("none is left", x.look(3), 36);
        for (int i = 0; i < 36; i++) {
            C.due("book(" + i + ", 1)", x.book(i, 1), 8 * (i / 6) + i % 6);
        }
    }

    private static void looseAhead() {
        C.sentence("each that was LOOSE ahead of it, with its ODDS then:");
        PulledJersey x = Checks.cloth(6, 6);
        Checks.tell(x, "run 1000;");
        x.gone(40);
        for (int y = 4; y >= 0; y--) {
            C.due("hours(1)", x.hours(1), 1);
            C.due("row " + y + " went", x.of(8 * y, 1), 0);
            C.due("GONE in all", x.look(3), 6 - y);
        }
        C.due("nothing is left to go", x.hours(1), 0);
    }

    private static void drawOnlyAboveZero() {
        C.sentence("a DRAW of 1000, if ODDS are above 0:");
        String[] laws = {"run 0;", "run 0-5;", "run 1;", "run 1000;", "run 0 when column=0;run 1;"};
        int[] draws = {0, 0, 2, 2, 1};
        for (int i = 0; i < laws.length; i++) {
            C.due("STATE by " + laws[i], twoLoose(laws[i]).look(7), STATES[draws[i]]);
        }
        PulledJersey x = new PulledJersey();
        Checks.tell(x, "run 1000;");
        x.hours(5);
        C.due("none LOOSE, no DRAW", x.look(7), 0);
    }

    private static int ran(int state, int odds) {
        PulledJersey x = new PulledJersey();
        Checks.tell(x, "run " + odds + ";");
        x.gone(24);
        x.state(state);
        return x.hours(1);
    }

    private static void belowOdds() {
        C.sentence("below ODDS it is GONE (behind all DRAWS).");
        C.due("563 below 562", ran(0, 562), 0);
        C.due("563 below 563", ran(0, 563), 0);
        C.due("563 below 564", ran(0, 564), 1);
        C.due("0 below 0", ran(457, 0), 0);
        C.due("0 below 1", ran(457, 1), 1);
        C.due("999 below 999", ran(1188, 999), 0);
        C.due("999 below 1000", ran(1188, 1000), 1);
    }

    private static void behindAllDraws() {
        C.sentence("it is GONE (behind all DRAWS).");
        PulledJersey x = new PulledJersey();
        x.set(2, 0, 0);
        // 8 and 24 are loose in one column: each goes while nothing there is gone.
        x.set(0, 16, 2);
        Checks.tell(x, "run 1000 when gone=0 and column=0;run 0;");
        C.due("hours(1)", x.hours(1), 2);
        C.due("8", x.of(8, 1), 0);
        C.due("24", x.of(24, 1), 0);
    }

    private static void hourIsOneMore() {
        C.sentence("HOUR is one more.");
        PulledJersey x = new PulledJersey();
        x.hours(1);
        C.due("hours(1) with none LOOSE", x.look(6), 1);
        x.hours(100);
        C.due("hours(100)", x.look(6), 101);
        Checks.tell(x, "run 1000;");
        x.gone(24);
        x.hours(1);
        C.due("the line has the HOUR that it was", x.book(1, 0), 101);
        C.due("look(6)", x.look(6), 102);
    }

    private static PulledJersey unbound(int w, int h) {
        PulledJersey x = Checks.cloth(w, h);
        x.set(2, 0, 0);
        return x;
    }

    private static void pullAtMost() {
        C.sentence("To PULL at an END, n STITCHES at most:");
        for (int n = 1; n <= 36; n++) {
            PulledJersey x = unbound(6, 6);
            C.due("pull(35, 0, " + n + ")", x.pull(35, 0, n), n);
            C.due("GONE behind it", x.look(3), n);
        }
    }

    private static void pullByItsWay() {
        C.sentence("place by place by its way:");
        PulledJersey x = unbound(3, 2);
        x.pull(5, 0, 6);
        int[] back = {8, 9, 10, 2, 1, 0};
        PulledJersey y = Checks.cloth(3, 2);
        for (int s = 8; s <= 10; s++) {
            y.set(0, s, 2);
        }
        y.set(2, 0, 0);
        y.pull(0, 1, 6);
        for (int i = 0; i < 6; i++) {
            C.due("back, line " + i, x.book(i, 1), back[i]);
            C.due("on, line " + i, y.book(i, 1), back[5 - i]);
        }
    }

    private static void pullPasses() {
        C.sentence("one that is GONE is passed;");
        PulledJersey x = unbound(3, 2);
        x.gone(8);
        x.gone(10);
        C.due("pull(5, 0, 1)", x.pull(5, 0, 1), 1);
        C.due("9 came undone, not 8", x.of(9, 1), 0);
        C.due("pull(5, 0, 2)", x.pull(5, 0, 2), 2);
        C.due("1 and 2 came undone", x.of(0, 1) + x.of(1, 1) + x.of(2, 1), 1);
        C.due("lines of those that went alone", x.look(5), 5);
    }

    private static void pullUndoesLoose() {
        C.sentence("one that is LOOSE comes undone (GONE);");
        PulledJersey x = unbound(2, 2);
        C.due("0 and 1 are HELD", x.of(0, 3) + x.of(1, 3), 2);
        // They come loose by the pull itself.
        C.due("pull(3, 0, 4)", x.pull(3, 0, 4), 4);
        C.due("GONE", x.look(3), 4);
    }

    private static void pullStopsAheadOfHeld() {
        C.sentence("it stops ahead of one that is HELD,");
        PulledJersey x = unbound(3, 2);
        x.set(1, 10, 1);
        C.due("pull(5, 0, 36)", x.pull(5, 0, 36), 2);
        C.due("10 is HERE", x.of(10, 1), 1);
        C.due("pull(5, 0, 36) once more", x.pull(5, 0, 36), 0);
        C.due("pull(0, 1, 36) undoes 0 and 1", x.pull(0, 1, 36), 2);
        C.due("2 is HELD by 10", x.of(2, 1), 1);
        PulledJersey y = Checks.cloth(3, 2);
        C.due("pull(5, 0, 36) at a HELD one", y.pull(5, 0, 36), 0);
        C.due("pull(0, 1, 36) at a HELD one", y.pull(0, 1, 36), 0);
        C.due("none is GONE", y.look(3), 0);
    }

    private static void pullStopsAtCut() {
        C.sentence("at a CUT or the thread's end (behind that place),");
        PulledJersey x = unbound(3, 2);
        x.cut(3);
        C.due("pull(5, 0, 36) to the CUT", x.pull(5, 0, 36), 2);
        C.due("the one ahead of the CUT went", x.of(9, 1), 0);
        C.due("the one behind it did not", x.of(10, 1), 1);
        PulledJersey y = unbound(3, 2);
        y.cut(3);
        y.cut(4);
        C.due("pull(4, 1, 36) between two", y.pull(4, 1, 36), 1);
        C.due("pull(4, 0, 36) of what is GONE", y.pull(4, 0, 36), 0);
        C.due("8 and 10 are HERE", y.of(8, 1) + y.of(10, 1), 2);
    }

    private static void pullStopsAtEnd() {
        C.sentence("or the thread's end (behind that place),");
        PulledJersey x = unbound(3, 2);
        C.due("pull(5, 0, 36)", x.pull(5, 0, 36), 6);
        C.due("0 went", x.of(0, 1), 0);
        C.due("all went", x.look(3), 6);
        C.due("pull(5, 0, 36) of nothing", x.pull(5, 0, 36), 0);
        C.due("pull(0, 1, 36) of nothing", x.pull(0, 1, 36), 0);
    }

    private static void pullStopsAtCount() {
        C.sentence("or when n came undone.");
        PulledJersey x = unbound(3, 2);
        x.gone(9);
        x.gone(10);
        C.due("pull(5, 0, 1)", x.pull(5, 0, 1), 1);
        C.due("8 is WOUND", x.of(8, 6), 1);
        C.due("9 was not passed", x.of(9, 6), 0);
        C.due("10 was not passed", x.of(10, 6), 0);
        C.due("the length", x.wound(0), 3);
    }

    private static void nothingWound() {
        C.sentence("If any came undone, all that did or was passed, and is not WOUND yet, is so then,");
        PulledJersey x = unbound(3, 2);
        x.gone(8);
        x.set(1, 9, 1);
        C.due("pull(5, 0, 36) passes one, undoes none", x.pull(5, 0, 36), 0);
        C.due("8 is not WOUND", x.of(8, 6), 0);
        C.due("no LENGTH", x.look(4), 0);
        x.set(1, 9, 0);
        x.set(1, 2, 1);
        x.gone(10);
        C.due("pull(5, 0, 36) passes two, undoes one", x.pull(5, 0, 36), 1);
        C.due("8 was passed ahead of it", x.of(8, 6), 1);
        C.due("9 came undone", x.of(9, 6), 1);
        C.due("10 was passed behind it", x.of(10, 6), 1);
        C.due("2 was not", x.of(2, 6), 0);
        C.due("the LENGTH", x.wound(0), 9);
    }

    private static void woundOnce() {
        C.sentence("and is not WOUND yet, is so then,");
        PulledJersey x = unbound(3, 2);
        x.pull(5, 0, 2);
        x.pull(5, 0, 1);
        C.due("two", x.wound(0), 6);
        C.due("the two are passed, but not wound anew", x.wound(1), 3);
        C.due("all added", x.look(11), 9);
        x.set(3, 8, 0);
        C.due("one that is HERE again", x.pull(5, 0, 1), 1);
        C.due("is wound anew", x.wound(2), 3);
    }

    private static void woundByAnotherEnd() {
        C.sentence("all that did or was passed, and is not WOUND yet, is so then,");
        PulledJersey x = unbound(3, 2);
        // Row 0 hangs on nothing, so that it comes undone by the way on, too.
        for (int s = 8; s <= 10; s++) {
            x.set(0, s, 2);
        }
        x.pull(0, 1, 2);
        x.pull(5, 0, 1);
        C.due("0 and 1 stay WOUND, 8 is so", x.of(0, 6) + x.of(1, 6) + x.of(8, 6), 3);
        C.due("2, 9 and 10 are not", x.of(2, 6) + x.of(9, 6) + x.of(10, 6), 0);
        C.due("all that is left", x.pull(5, 0, 36), 3);
        C.due("2, 10 and 9", x.wound(2), 3 + 2 + 2);
        C.due("all added", x.look(11), 3 * 3 + 3 * 2);
    }

    private static void oneLength() {
        C.sentence("as one LENGTH: theirs added.");
        PulledJersey all = unbound(6, 6);
        all.pull(35, 0, 36);
        C.due("36 of 3", all.wound(0), 108);
        PulledJersey x = unbound(2, 2);
        x.set(0, 8, 3);
        x.set(0, 9, 2);
        x.set(0, 1, 1);
        x.gone(1);
        C.due("pull(3, 0, 36)", x.pull(3, 0, 36), 3);
        C.due("one LENGTH", x.look(4), 1);
        C.due("5, 2, 4 and 3", x.wound(0), 14);
    }

    /** A cloth with so many lines in its book, all of stitch 0 and of hour 0. */
    private static PulledJersey withLines(int lines) {
        PulledJersey x = new PulledJersey();
        for (int i = 0; i < lines; i++) {
            x.gone(0);
            x.set(3, 0, 0);
        }
        x.set(2, 0, 0);
        return x;
    }

    private static void hundredLines() {
        C.sentence("THE BOOK (100 lines; no more then)");
        PulledJersey x = withLines(99);
        C.due("99 lines", x.look(5), 99);
        C.due("no hundredth yet", x.book(99, 1), NONE);
        C.yes("gone(1)", x.gone(1));
        C.due("100 lines", x.look(5), 100);
        C.due("the hundredth", x.book(99, 1), 1);
        C.yes("gone(2) goes all the same", x.gone(2));
        C.due("2 is GONE", x.of(2, 1), 0);
        C.due("100 lines still", x.look(5), 100);
        C.due("the hundredth stays", x.book(99, 1), 1);
        C.due("no more", x.book(100, 1), NONE);
        C.yes("undo() of what was not noted", x.undo());
        C.due("100 lines", x.look(5), 100);
        C.yes("undo() of the hundredth", x.undo());
        C.due("99 lines", x.look(5), 99);
        x.gone(3);
        C.due("the hundredth anew", x.book(99, 1), 3);
    }

    private static void hundredthLineOfPull() {
        C.sentence("THE BOOK (100 lines; no more then) of each that goes:");
        PulledJersey x = withLines(98);
        C.due("pull(15, 0, 4)", x.pull(15, 0, 4), 4);
        C.due("100 lines", x.look(5), 100);
        C.due("book(98, 1)", x.book(98, 1), 24);
        C.due("book(99, 1)", x.book(99, 1), 25);
        C.due("all four went", x.look(3), 4);
        C.due("all four are WOUND", x.wound(0), 12);
        x.undo();
        C.due("98 lines", x.look(5), 98);
    }

    private static void hundredthLineOfHour() {
        C.sentence("of each that goes: HOUR, STITCH, how:");
        PulledJersey x = withLines(98);
        Checks.tell(x, "run 1000;");
        C.due("hours(1)", x.hours(1), 4);
        C.due("100 lines", x.look(5), 100);
        C.due("book(98, 1)", x.book(98, 1), 24);
        C.due("book(99, 1)", x.book(99, 1), 25);
        C.due("all four went", x.look(3), 4);
        C.due("hours(3), noted or not", x.hours(3), 12);
    }

    private static void lineOfEach() {
        C.sentence("HOUR, STITCH, how: 0 it was told, 1 it ran, 2 it was pulled.");
        PulledJersey x = unbound(2, 2);
        x.gone(8);
        Checks.tell(x, "run 1000 when row=1;run 0;");
        x.hours(1);
        x.pull(3, 0, 1);
        int[][] lines = {{0, 8, 0}, {0, 9, 1}, {1, 1, 2}};
        for (int i = 0; i < 3; i++) {
            for (int what = 0; what < 3; what++) {
                C.due("book(" + i + ", " + what + ")", x.book(i, what), lines[i][what]);
            }
        }
        C.due("three lines", x.look(5), 3);
    }

    private static void linesInTheirOrder() {
        C.sentence("of each that goes: HOUR, STITCH, how: 0 it was told, 1 it ran, 2 it was pulled.");
        PulledJersey x = unbound(3, 3);
        Checks.tell(x, "run 1000 when hour=3 and row=1;run 0;");
        x.pull(8, 0, 2);
        x.gone(16);
        x.hours(3);
        x.gone(1);
        x.hours(1);
        x.gone(2);
        x.pull(8, 0, 1);
        int[][] lines = {{0, 18, 2}, {0, 17, 2}, {0, 16, 0}, {3, 1, 0}, {3, 8, 1}, {3, 9, 1}, {3, 10, 1}, {4, 2, 0},
            {4, 0, 2}};
        C.due("so many lines", x.look(5), lines.length);
        for (int i = 0; i < lines.length; i++) {
            for (int what = 0; what < 3; what++) {
                C.due("book(" + i + ", " + what + ")", x.book(i, what), lines[i][what]);
            }
        }
    }

    private static void linesOfTheLastHour() {
        C.sentence("of each that goes: HOUR, STITCH, how:");
        PulledJersey x = unbound(6, 6);
        Checks.tell(x, "run 0 when hour<9998;run 1000;");
        for (int i = 0; i < 99; i++) {
            x.hours(100);
        }
        x.hours(98);
        C.due("the last HOUR that goes by", x.hours(1), 6);
        C.yes("gone(32)", x.gone(32));
        C.due("pull(35, 0, 36) at HOUR 9999", x.pull(35, 0, 36), 29);
        C.due("all went", x.look(3), 36);
        C.due("all are WOUND", x.wound(0), 108);
        int[][] lines = {{0, 9998, 40, 1}, {5, 9998, 45, 1}, {6, 9999, 32, 0}, {7, 9999, 37, 2}, {35, 9999, 0, 2}};
        for (int[] one : lines) {
            for (int what = 0; what < 3; what++) {
                C.due("book(" + one[0] + ", " + what + ")", x.book(one[0], what), one[what + 1]);
            }
        }
        C.due("36 lines", x.look(5), 36);
    }
}
