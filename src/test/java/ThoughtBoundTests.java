/** The bounds that the document's terms of IN THOUGHT, UNDO and THE IMAGE name, sentence by sentence. */
public final class ThoughtBoundTests {
    private static final int NONE = PulledJersey.NONE;
    private static final Checks C = new Checks("ThoughtBoundTests");

    public static void main(String[] args) {
        nothingStays();
        runsOfHere();
        runsCountMore();
        runsOfKinds();
        runsOfLoose();
        runsOfAllAtOnce();
        runsLeastRow();
        saveLoops();
        saveNotCaughtYet();
        saveFewest();
        saveFirstSet();
        saveAllOfThem();
        comesWithoutBound();
        comesStops();
        comesAtNone();
        allComesUndone();
        allOfThirtySix();
        allLeast();
        part();
        partOfWound();
        partOfCut();
        join();
        quietMillion();
        quietDownwards();
        quietByTheHour();
        firstOfWhole();
        firstAsNow();
        firstJustThose();
        firstLeast();
        undoLatest();
        undoNotUndoneYet();
        undoGoesBackWhole();
        eightAreKept();
        whatForgets();
        whatDoesNotForget();
        imageHoldsAll();
        imageHoldsNot();
        imageOfFullRows();
        imageAsItWas();
        imageMoreThanOnce();
        C.close();
    }

    private static void nothingStays() {
        C.sentence("3. IN THOUGHT (nothing of it stays).");
        C.refused("runs(12, 0)", x -> x.runs(12, 0), NONE);
        C.refused("runs(18, 0)", x -> x.runs(18, 0), 5);
        C.refused("save(3, 0)", x -> x.save(3, 0), 1);
        C.refused("comes(14, 0, 0)", x -> x.comes(14, 0, 0), 4);
        C.refused("all(0)", x -> x.all(0), NONE);
        C.refused("part(1, 3, 0, 1)", x -> x.part(1, 3, 0, 1), 2);
        C.refused("join(6)", x -> x.join(6), 1);
        C.refused("quiet()", x -> x.quiet(), 997000);
        C.refused("first(0)", x -> x.first(0), 0);
    }

    private static void runsOfHere() {
        C.sentence("RUNS of a STITCH that is HERE:");
        PulledJersey x = new PulledJersey();
        C.due("HERE", x.runs(24, 0), 3);
        x.gone(24);
        C.due("GONE", x.runs(24, 0), NONE);
        C.due("GONE, its row", x.runs(24, 1), NONE);
        x.set(3, 24, 0);
        C.due("HERE again", x.runs(24, 0), 3);
    }

    private static void runsCountMore() {
        C.sentence("if it went, how many more would be GONE in the end, if whatever is LOOSE goes (ODDS not asked;");
        PulledJersey x = Checks.cloth(2, 6);
        Checks.tell(x, "run 0;");
        for (int y = 0; y < 6; y++) {
            C.due("runs(" + 8 * y + ", 0)", x.runs(8 * y, 0), y);
        }
        // Two columns hang on one that is doubled, if that beside it is left out.
        x.set(0, 40, 3);
        x.set(0, 41, 2);
        C.due("runs(40, 0)", x.runs(40, 0), 10);
        C.due("runs(41, 0)", x.runs(41, 0), 0);
    }

    private static void runsOfKinds() {
        C.sentence("if it went, how many more would be GONE in the end, if whatever is LOOSE goes");
        // All of row 1 of one kind: 16 goes, so 8 does, and what hung on 8 alone.
        int[] more = {2, 2, 1, 2};
        int[] rows = {0, 0, 1, 0};
        for (int kind = 0; kind <= 3; kind++) {
            PulledJersey x = Checks.cloth(2, 3);
            x.set(1, 0, kind == 2 ? 1 : 0);
            x.set(1, 1, kind == 2 ? 1 : 0);
            x.set(0, 8, kind);
            x.set(0, 9, kind);
            C.due("runs(16, 0) over a row of kind " + kind, x.runs(16, 0), more[kind]);
            C.due("runs(16, 1) over a row of kind " + kind, x.runs(16, 1), rows[kind]);
        }
    }

    private static void runsOfLoose() {
        C.sentence("those LOOSE already, too)");
        PulledJersey x = new PulledJersey();
        x.gone(24);
        C.due("runs(3, 0)", x.runs(3, 0), 3);
        C.due("runs(27, 0)", x.runs(27, 0), 6);
        C.due("one that is LOOSE itself", x.runs(16, 0), 2);
        x.set(2, 0, 0);
        C.due("all the others", x.runs(3, 0), 14);
    }

    private static PulledJersey unboundOfKind(int kind) {
        PulledJersey x = Checks.cloth(6, 6);
        for (int k = 0; k < 36; k++) {
            x.set(0, x.at(k, 0), kind);
        }
        x.set(2, 0, 0);
        return x;
    }

    private static void runsOfAllAtOnce() {
        C.sentence("if whatever is LOOSE goes (ODDS not asked; those LOOSE already, too)");
        for (int kind = 0; kind <= 3; kind++) {
            PulledJersey x = unboundOfKind(kind);
            C.due("runs(0, 0), all of kind " + kind, x.runs(0, 0), 35);
            C.due("runs(45, 1), all of kind " + kind, x.runs(45, 1), 0);
            C.due("save(0, 0), all of kind " + kind, x.save(0, 0), 36);
        }
        // Two are left, both LOOSE, and both behind a CUT.
        PulledJersey y = Checks.cloth(2, 2);
        y.cut(0);
        y.cut(1);
        y.gone(8);
        y.gone(9);
        C.due("runs(0, 0) of two", y.runs(0, 0), 1);
        C.due("runs(0, 1) of two", y.runs(0, 1), 0);
        C.due("save(0, 0) of two", y.save(0, 0), 2);
    }

    private static void runsLeastRow() {
        C.sentence("the least row of them.");
        PulledJersey x = Checks.cloth(2, 6);
        C.due("none of them", x.runs(0, 1), NONE);
        C.due("row 0", x.runs(8, 1), 0);
        x.set(1, 32, 1);
        C.due("none of them, 32 is CAUGHT", x.runs(40, 1), NONE);
        x.set(1, 32, 0);
        x.set(1, 24, 1);
        C.due("row 4 alone", x.runs(40, 1), 4);
        C.due("not the row of that which went", x.runs(24, 1), 0);
        C.due("row 0 of one that would go below it", x.runs(8, 1), 0);
        x.gone(41);
        x.set(1, 1, 1);
        C.due("of those LOOSE already, by 0 that frees none", x.runs(0, 1), 1);
    }

    private static void saveLoops() {
        C.sentence("SAVE with n (0 .. 3) loops more,");
        PulledJersey x = new PulledJersey();
        x.set(2, 0, 0);
        int[] fewest = {16, 12, 8, 4};
        for (int n = 0; n <= 3; n++) {
            C.due("save(" + n + ", 0)", x.save(n, 0), fewest[n]);
            for (int what = 1; what <= 3; what++) {
                C.due("save(" + n + ", " + what + ")", x.save(n, what), what <= n ? 23 + what : NONE);
            }
        }
        C.due("save(-1, 0)", x.save(-1, 0), NONE);
        C.due("save(4, 0)", x.save(4, 0), NONE);
    }

    private static void saveNotCaughtYet() {
        C.sentence("HERE and not CAUGHT yet, CAUGHT now:");
        PulledJersey x = new PulledJersey();
        x.set(2, 0, 0);
        x.set(1, 24, 1);
        C.due("save(1, 0) with 24 CAUGHT", x.save(1, 0), 8);
        C.due("save(1, 1) with 24 CAUGHT", x.save(1, 1), 25);
        x.gone(25);
        C.due("save(1, 1) with 25 GONE", x.save(1, 1), 26);
        C.due("save(2, 2) with 25 GONE", x.save(2, 2), 27);
        PulledJersey y = new PulledJersey();
        y.set(1, 0, 1);
        C.due("nothing runs: the least not CAUGHT", y.save(1, 1), 1);
        y.gone(1);
        C.due("nor GONE", y.save(1, 1), 2);
    }

    private static void saveFewest() {
        C.sentence("the fewest that would be GONE more in the end;");
        PulledJersey x = new PulledJersey();
        C.due("none LOOSE", x.save(0, 0), 0);
        x.gone(24);
        C.due("GONE ones are no more", x.save(0, 0), 3);
        C.due("one run, caught where it begins", x.save(1, 0), 0);
        x.gone(25);
        C.due("two runs, one caught", x.save(1, 0), 3);
        C.due("two runs, two caught", x.save(2, 0), 0);
        PulledJersey all = Checks.cloth(6, 6);
        all.set(2, 0, 0);
        C.due("all", all.save(0, 0), 36);
        C.due("all but three columns", all.save(3, 0), 18);
    }

    private static void saveFirstSet() {
        C.sentence("of several sets of n the first (by numbers, the least first;");
        PulledJersey x = new PulledJersey();
        C.due("save(1, 1) of equals", x.save(1, 1), 0);
        C.due("save(3, 1)", x.save(3, 1), 0);
        C.due("save(3, 2)", x.save(3, 2), 1);
        C.due("save(3, 3)", x.save(3, 3), 2);
        x.gone(26);
        // 18 must be one of them; the others are the least that can be.
        C.due("save(1, 1)", x.save(1, 1), 18);
        C.due("save(2, 1)", x.save(2, 1), 0);
        C.due("save(2, 2)", x.save(2, 2), 18);
        C.due("save(3, 1)", x.save(3, 1), 0);
        C.due("save(3, 2)", x.save(3, 2), 1);
        C.due("save(3, 3)", x.save(3, 3), 18);
        x.gone(24);
        C.due("save(3, 1) with 16, too", x.save(3, 1), 0);
        C.due("save(3, 2) with 16, too", x.save(3, 2), 16);
        C.due("save(3, 3) with 16, too", x.save(3, 3), 18);
        // Of two runs alike the one of the lesser number is caught.
        C.due("save(1, 1) of two runs", x.save(1, 1), 16);
    }

    private static void saveAllOfThem() {
        C.sentence("all of them, if there are fewer)");
        PulledJersey x = Checks.cloth(2, 2);
        x.set(2, 0, 0);
        x.gone(0);
        C.due("three are free", x.save(3, 0), 0);
        C.due("save(3, 3)", x.save(3, 3), 9);
        x.gone(1);
        C.due("two are", x.save(3, 0), 0);
        C.due("save(3, 1)", x.save(3, 1), 8);
        C.due("save(3, 2)", x.save(3, 2), 9);
        C.due("save(3, 3)", x.save(3, 3), NONE);
        x.set(1, 8, 1);
        C.due("one is", x.save(2, 1), 9);
        C.due("save(2, 2)", x.save(2, 2), NONE);
        x.set(1, 9, 1);
        C.due("none is", x.save(1, 0), 0);
        C.due("save(1, 1)", x.save(1, 1), NONE);
        PulledJersey y = Checks.cloth(2, 2);
        y.set(0, 8, 2);
        y.gone(1);
        y.set(1, 8, 1);
        y.set(1, 9, 1);
        C.due("0 alone is free: without it one goes", y.save(0, 0), 1);
        C.due("with it none", y.save(3, 0), 0);
        C.due("it is told", y.save(3, 1), 0);
    }

    private static void comesWithoutBound() {
        C.sentence("COMES of an END: how many would come undone by a PULL without bound;");
        PulledJersey x = Checks.cloth(6, 6);
        C.due("bound", x.comes(35, 0, 0), 0);
        x.set(2, 0, 0);
        C.due("all", x.comes(35, 0, 0), 36);
        C.due("no END", x.comes(34, 0, 0), NONE);
        C.due("no END by this way", x.comes(35, 1, 0), NONE);
        x.gone(40);
        C.due("all but the one that is GONE", x.comes(35, 0, 0), 35);
    }

    private static void comesStops() {
        C.sentence("the place ahead of which it stops (the next one by its way;");
        PulledJersey x = Checks.cloth(6, 6);
        C.due("at once, back", x.comes(35, 0, 1), 35);
        C.due("at once, on", x.comes(0, 1, 1), 0);
        x.set(2, 0, 0);
        x.set(1, 0, 1);
        C.due("ahead of the last", x.comes(35, 0, 1), 0);
        x.set(1, 41, 1);
        C.due("ahead of the second", x.comes(35, 0, 1), 34);
        x.gone(40);
        C.due("behind one that is passed", x.comes(35, 0, 1), 34);
        C.due("none came", x.comes(35, 0, 0), 0);
        x.gone(0);
        C.due("the way on", x.comes(0, 1, 1), 1);
    }

    private static void comesAtNone() {
        C.sentence("NONE at the thread's end or a CUT)");
        PulledJersey x = Checks.cloth(3, 2);
        x.set(2, 0, 0);
        C.due("the thread's end", x.comes(5, 0, 1), NONE);
        x.cut(2);
        C.due("a CUT", x.comes(5, 0, 1), NONE);
        C.due("so many to it", x.comes(5, 0, 0), 3);
        x.gone(8);
        x.gone(9);
        x.gone(10);
        C.due("a CUT behind such as are passed", x.comes(5, 0, 1), NONE);
        C.due("the CUT by the other way", x.comes(0, 1, 1), NONE);
        C.due("the thread's end by the other way", x.comes(3, 1, 1), NONE);
        C.due("nothing comes there", x.comes(3, 1, 0), 0);
    }

    private static void allComesUndone() {
        C.sentence("ALL: the END by which all that is HERE comes undone:");
        PulledJersey x = Checks.cloth(3, 2);
        C.due("none, bound", x.all(0), NONE);
        C.due("no way, bound", x.all(1), NONE);
        x.set(2, 0, 0);
        C.due("all", x.all(0), 5);
        C.due("its way", x.all(1), 0);
        x.set(1, 0, 1);
        C.due("all but one is none", x.all(0), NONE);
        x.gone(0);
        C.due("all but what is GONE", x.all(0), 5);
        for (int s : new int[] {1, 2, 8, 9}) {
            x.gone(s);
        }
        C.due("one alone by both ENDS", x.all(0), 0);
        x.gone(10);
        C.due("nothing is HERE", x.all(0), NONE);
        C.due("nothing is HERE, no way", x.all(1), NONE);
    }

    private static void allOfThirtySix() {
        C.sentence("ALL: the END by which all that is HERE comes undone:");
        PulledJersey x = Checks.cloth(6, 6);
        x.set(2, 0, 0);
        C.due("36 of 36", x.all(0), 35);
        x.set(1, 0, 1);
        C.due("35 of 36", x.all(0), NONE);
        x.set(1, 0, 0);
        x.cut(0);
        C.due("35 to the CUT", x.all(0), NONE);
        x.gone(0);
        C.due("35 of 35 to the CUT", x.all(0), 35);
        C.due("its way", x.all(1), 0);
    }

    private static void allLeast() {
        C.sentence("of several the least place, way 0 first.");
        PulledJersey x = Checks.cloth(3, 2);
        for (int s : new int[] {0, 1, 8, 9, 10}) {
            x.gone(s);
        }
        // 2 alone is HERE, at place 2.
        C.due("place 0 on, place 5 back", x.all(0), 0);
        C.due("its way", x.all(1), 1);
        x.cut(1);
        C.due("place 2 on, place 5 back", x.all(0), 2);
        C.due("its way", x.all(1), 1);
        x.cut(2);
        C.due("place 2 by both ways", x.all(0), 2);
        C.due("way 0 first", x.all(1), 0);
        PulledJersey y = Checks.cloth(3, 2);
        for (int s : new int[] {0, 1, 8, 9, 10}) {
            y.gone(s);
        }
        y.cut(3);
        C.due("place 0 on, place 3 back", y.all(0), 0);
        y.cut(0);
        C.due("place 1 on, place 3 back", y.all(0), 1);
    }

    private static void part() {
        C.sentence("PART of columns a .. b and rows c .. d: how many CUTS more are needed"
            + " so that no place of it hangs on one without it by the thread");
        PulledJersey x = Checks.cloth(3, 3);
        C.due("all of it", x.part(0, 2, 0, 2), 0);
        C.due("the first place", x.part(0, 0, 0, 0), 1);
        C.due("the last place", x.part(2, 2, 2, 2), 1);
        C.due("one in the midst", x.part(1, 1, 1, 1), 2);
        C.due("two by the turn of the thread", x.part(2, 2, 0, 1), 2);
        C.due("the middle column", x.part(1, 1, 0, 2), 6);
        C.due("the middle row", x.part(0, 2, 1, 1), 2);
        C.due("the upper rows", x.part(0, 2, 1, 2), 1);
        C.due("two columns", x.part(0, 1, 0, 2), 3);
    }

    private static void partOfWound() {
        C.sentence("(next to one another, neither WOUND,");
        PulledJersey x = Checks.cloth(3, 3);
        x.gone(18);
        C.due("GONE hangs all the same", x.part(1, 1, 2, 2), 2);
        x.set(2, 0, 0);
        x.set(3, 18, 0);
        x.pull(8, 0, 1);
        C.due("17 beside the WOUND 18", x.part(1, 1, 2, 2), 1);
        C.due("18 itself", x.part(2, 2, 2, 2), 0);
        x.pull(8, 0, 1);
        C.due("17 is WOUND, too", x.part(1, 1, 2, 2), 0);
        C.due("16 hangs on 8 alone", x.part(0, 0, 2, 2), 1);
        PulledJersey y = Checks.cloth(3, 3);
        y.set(0, 8, 2);
        C.due("0 by the way on", y.pull(0, 1, 1), 1);
        C.due("1 behind the WOUND 0", y.part(1, 1, 0, 0), 1);
        C.due("0 itself", y.part(0, 0, 0, 0), 0);
        PulledJersey z = Checks.cloth(2, 2);
        z.set(2, 0, 0);
        z.set(0, 8, 2);
        z.set(0, 9, 2);
        C.due("0, 1 and 9 by the way on", z.pull(0, 1, 3), 3);
        C.due("8 behind the WOUND 9", z.part(0, 0, 1, 1), 0);
        C.due("the row of both", z.part(0, 1, 1, 1), 0);
    }

    private static void partOfCut() {
        C.sentence("no CUT between).");
        PulledJersey x = Checks.cloth(3, 3);
        x.cut(3);
        C.due("one of two is cut", x.part(1, 1, 1, 1), 1);
        x.cut(4);
        C.due("both are cut", x.part(1, 1, 1, 1), 0);
        x.cut(0);
        C.due("cut elsewhere", x.part(0, 2, 0, 0), 1);
        C.due("cut within", x.part(0, 2, 1, 1), 2);
    }

    private static void join() {
        C.sentence("JOIN: the fewest LENGTHS that are v together at least.");
        PulledJersey x = new PulledJersey();
        C.due("of none", x.join(1), NONE);
        x.set(2, 0, 0);
        x.pull(15, 0, 1);
        x.pull(15, 0, 3);
        x.pull(15, 0, 2);
        // 3, 9 and 6
        int[][] due = {{1, 1}, {9, 1}, {10, 2}, {15, 2}, {16, 3}, {18, 3}, {19, NONE}, {Integer.MAX_VALUE, NONE},
            {0, NONE}, {-1, NONE}, {Integer.MIN_VALUE, NONE}};
        for (int[] one : due) {
            C.due("join(" + one[0] + ")", x.join(one[0]), one[1]);
        }
    }

    private static void quietMillion() {
        C.sentence("QUIET: how likely it is that none goes in an HOUR: a million,");
        PulledJersey x = new PulledJersey();
        C.due("none LOOSE", x.quiet(), 1000000);
        Checks.tell(x, "run 0;");
        x.gone(24);
        C.due("ODDS 0", x.quiet(), 1000000);
        Checks.tell(x, "run 1;");
        C.due("ODDS 1", x.quiet(), 999000);
        Checks.tell(x, "run 999;");
        C.due("ODDS 999", x.quiet(), 1000);
        Checks.tell(x, "run 1000;");
        C.due("ODDS 1000", x.quiet(), 0);
        x.gone(16);
        x.gone(8);
        x.gone(0);
        C.due("none LOOSE any more", x.quiet(), 1000000);
    }

    private static void quietDownwards() {
        C.sentence("then for each LOOSE one times 1000 less its ODDS, by 1000, downwards each time.");
        PulledJersey x = Checks.cloth(6, 2);
        x.set(2, 0, 0);
        // Six are loose. A million is 1000 then, then 1, then 0 and one part of 1000.
        Checks.tell(x, "run 999 when column<2;run 0;");
        C.due("two of 1 in 1000", x.quiet(), 1);
        Checks.tell(x, "run 999 when column<3;run 0;");
        C.due("three of them", x.quiet(), 0);
        Checks.tell(x, "run 1;");
        // 999000, 998001, 997002, 996004, 995007, 994011; the whole is 994014.98.
        C.due("six of 999 in 1000", x.quiet(), 994011);
    }

    private static void quietByTheHour() {
        C.sentence("then for each LOOSE one times 1000 less its ODDS,");
        PulledJersey x = new PulledJersey();
        Checks.tell(x, "run 100*hour when row=2;run 0;");
        x.hours(3);
        x.gone(24);
        C.due("ODDS 300 by the HOUR 3", x.quiet(), 700000);
        x.undo();
        x.undo();
        x.gone(24);
        C.due("ODDS 200 by the HOUR 2", x.quiet(), 800000);
    }

    private static void firstOfWhole() {
        C.sentence("FIRST: the STITCHES by whose going from a whole CLOTH");
        PulledJersey x = new PulledJersey();
        C.due("none is GONE", x.first(0), 0);
        C.due("the least of none", x.first(1), NONE);
        x.gone(0);
        C.due("0 went", x.first(0), 1);
        C.due("it is 0", x.first(1), 0);
        x.gone(27);
        C.due("two went", x.first(0), 0);
        x.set(3, 0, 0);
        C.due("27 went, but nothing ran yet", x.first(0), 0);
        x.gone(19);
        x.gone(11);
        x.gone(3);
        C.due("27 went, and all ran", x.first(0), 1);
        C.due("it is 27", x.first(1), 27);
    }

    private static void firstAsNow() {
        C.sentence("(CAUGHT, BOUND, KINDS as now)");
        PulledJersey x = new PulledJersey();
        x.gone(24);
        x.gone(16);
        C.due("8 would be GONE, too", x.first(0), 0);
        x.set(1, 8, 1);
        C.due("8 is CAUGHT", x.first(1), 24);
        x.set(1, 8, 0);
        x.set(0, 17, 3);
        C.due("17 is drawn through 9 and 10", x.first(0), 0);
        x.set(0, 17, 1);
        C.due("17 is drawn through 8, none through 9", x.first(0), 0);
        x.set(1, 9, 1);
        C.due("9 is CAUGHT", x.first(1), 24);
        x.set(2, 0, 0);
        C.due("not BOUND: all would be GONE", x.first(0), 0);
    }

    private static void firstJustThose() {
        C.sentence("just those would be GONE in the end that are GONE now: how many;");
        PulledJersey x = Checks.cloth(2, 2);
        x.gone(8);
        C.due("too few", x.first(0), 0);
        x.gone(0);
        C.due("just those", x.first(0), 1);
        x.gone(1);
        C.due("too many", x.first(0), 0);
        // What is LOOSE in a whole cloth goes, whoever goes first.
        PulledJersey y = Checks.cloth(2, 2);
        y.set(0, 8, 2);
        y.gone(0);
        C.due("0 went alone", y.first(0), 1);
        y.gone(1);
        C.due("1 or nobody, and 0 by itself", y.first(0), 1);
        C.due("it is 1", y.first(1), 1);
    }

    private static void firstLeast() {
        C.sentence("that are GONE now: how many; the least.");
        PulledJersey x = Checks.cloth(2, 2);
        x.set(2, 0, 0);
        for (int k = 0; k < 4; k++) {
            x.gone(x.at(k, 0));
        }
        C.due("each of four", x.first(0), 4);
        C.due("the least", x.first(1), 0);
        x.set(2, 0, 1);
        C.due("none makes all go", x.first(1), NONE);
        x.set(3, 9, 0);
        x.set(3, 1, 0);
        C.due("8 went", x.first(1), 8);
        x.set(0, 8, 2);
        C.due("0 is LOOSE by itself, 8 went", x.first(0), 1);
    }

    private static void undoLatest() {
        C.sentence("UNDO: the latest HOUR, PULL, going or CUT not undone yet goes back");
        PulledJersey x = Checks.cloth(3, 2);
        x.set(2, 0, 0);
        Checks.tell(x, "run 0;");
        x.cut(0);
        x.gone(0);
        x.pull(5, 0, 1);
        x.hours(1);
        C.due("four can be", x.look(10), 4);
        C.yes("undo() of the HOUR", x.undo());
        C.due("look(6)", x.look(6), 0);
        C.due("8 is GONE", x.of(8, 1), 0);
        C.yes("undo() of the PULL", x.undo());
        C.due("8 is HERE", x.of(8, 1), 1);
        C.due("0 is GONE", x.of(0, 1), 0);
        C.yes("undo() of the going", x.undo());
        C.due("0 is HERE", x.of(0, 1), 1);
        C.due("the CUT is there", x.at(0, 1), 1);
        C.yes("undo() of the CUT", x.undo());
        C.due("the CUT is not", x.at(0, 1), 0);
        C.no("undo() of nothing", x.undo());
        x.pull(0, 1, 1);
        C.due("a PULL of none can be undone, too", x.look(10), 1);
        x.hours(3);
        C.due("each HOUR is one", x.look(10), 4);
    }

    private static void undoNotUndoneYet() {
        C.sentence("the latest HOUR, PULL, going or CUT not undone yet");
        PulledJersey x = new PulledJersey();
        x.cut(1);
        x.cut(2);
        x.undo();
        x.cut(3);
        C.yes("undo() of the third", x.undo());
        C.due("the third is not there", x.at(3, 1), 0);
        C.due("the first is", x.at(1, 1), 1);
        C.yes("undo() of the first, not of the second", x.undo());
        C.due("the first is not", x.at(1, 1), 0);
        C.no("undo() of nothing", x.undo());
    }

    private static void undoGoesBackWhole() {
        C.sentence("goes back (LENGTHS, THE BOOK, STATE, too):");
        PulledJersey x = new PulledJersey();
        x.set(2, 0, 0);
        x.state(99);
        Checks.tell(x, "run 1000;");
        String first = Worn.picture(x);
        x.hours(1);
        x.pull(15, 0, 3);
        C.due("LENGTHS", x.look(4), 1);
        C.due("lines", x.look(5), 7);
        C.due("STATE is another", x.look(7) == 99, false);
        C.due("WOUND, passed and undone", x.of(24, 6) + x.of(19, 6), 2);
        x.undo();
        C.due("no LENGTHS", x.look(4), 0);
        C.due("none added", x.look(11), 0);
        C.due("wound(0)", x.wound(0), NONE);
        C.due("lines of the HOUR", x.look(5), 4);
        C.due("book(4, 1)", x.book(4, 1), NONE);
        C.due("not WOUND", x.of(24, 6) + x.of(19, 6), 0);
        x.undo();
        C.due("STATE", x.look(7), 99);
        C.yes("all is as it was", Worn.picture(x).equals(first));
        // What stood ahead of the step stays: a PULL ahead of a CUT, a CUT ahead of an HOUR.
        x.pull(15, 0, 2);
        x.cut(7);
        x.hours(1);
        x.undo();
        C.due("the CUT stays", x.at(7, 1), 1);
        C.due("the LENGTH stays", x.wound(0), 6);
        C.due("WOUND stays", x.of(24, 6) + x.of(25, 6), 2);
        C.due("lines of the PULL stay", x.look(5), 2);
        x.undo();
        C.due("the CUT is away", x.at(7, 1), 0);
        C.due("one LENGTH", x.look(4), 1);
        C.due("WOUND still", x.of(24, 6) + x.of(25, 6), 2);
        C.due("GONE still", x.look(3), 2);
    }

    private static void eightAreKept() {
        C.sentence("8 are kept;");
        for (int steps = 7; steps <= 10; steps++) {
            PulledJersey x = new PulledJersey();
            for (int k = 0; k < steps; k++) {
                x.cut(k);
            }
            int kept = Math.min(8, steps);
            C.due("kept of " + steps, x.look(10), kept);
            for (int i = 0; i < kept; i++) {
                C.yes("undo() " + i + " of " + steps, x.undo());
            }
            C.no("undo() once more of " + steps, x.undo());
            C.due("cuts that stay of " + steps, x.look(8), steps - kept);
        }
        PulledJersey y = new PulledJersey();
        y.hours(100);
        C.due("kept of 100 HOURS", y.look(10), 8);
        for (int i = 0; i < 8; i++) {
            y.undo();
        }
        C.no("no more", y.undo());
        C.due("HOUR", y.look(6), 92);
    }

    private static void forgets(String call, Checks.Call c) {
        PulledJersey x = Worn.make();
        C.due("what can be undone ahead of " + call, x.look(10), 6);
        c.on(x);
        C.due("what can be undone behind " + call, x.look(10), 0);
        C.no("undo() behind " + call, x.undo());
    }

    private static void whatForgets() {
        C.sentence("whatever else is told but texts (the taking of THE IMAGE does not) forgets them.");
        forgets("state(0)", x -> x.state(0));
        forgets("cloth(5, 3)", x -> Checks.n(x.cloth(5, 3)));
        forgets("set(0, 1, 0)", x -> Checks.n(x.set(0, 1, 0)));
        forgets("set(1, 1, 1)", x -> Checks.n(x.set(1, 1, 1)));
        forgets("set(2, 0, 0)", x -> Checks.n(x.set(2, 0, 0)));
        forgets("set(3, 0, 0)", x -> Checks.n(x.set(3, 0, 0)));
        forgets("set(3, 1, 0), HERE already", x -> Checks.n(x.set(3, 1, 0)));
        forgets("image(false)", x -> Checks.n(x.image(false)));
    }

    private static void keeps(String call, Checks.Call c) {
        PulledJersey x = Worn.make();
        c.on(x);
        C.due("what can be undone behind " + call, x.look(10), 6);
        C.yes("undo() behind " + call, x.undo());
    }

    private static void whatDoesNotForget() {
        C.sentence("but texts (the taking of THE IMAGE does not)");
        keeps("image(true)", x -> Checks.n(x.image(true)));
        keeps("feed", x -> x.feed(0, 0, 0, 0, 0));
        keeps("end(0)", x -> Checks.n(x.end(0)));
        keeps("text()", x -> x.text());
        keeps("a faulty text()", x -> x.feed(0, 0, 0, 0, 0) + x.text());
        // A text is told, not done: an undo leaves it.
        PulledJersey x = Worn.make();
        C.due("text()", x.text(), 1);
        x.undo();
        C.due("look(9)", x.look(9), 1);
    }

    private static void imageHoldsAll() {
        C.sentence("THE IMAGE: all that is and was told but");
        PulledJersey x = Worn.make();
        String then = Worn.picture(x).replaceFirst("look( \\S+){12}", "");
        int[] looks = new int[12];
        for (int what = 0; what < 12; what++) {
            looks[what] = x.look(what);
        }
        x.image(true);
        x.cloth(6, 6);
        x.state(7);
        x.text();
        x.set(2, 0, 0);
        x.pull(35, 0, 9);
        x.hours(3);
        // The fault is not of the image: it is told anew here, and no law with it.
        Checks.tell(x, "run ;");
        C.yes("image(false)", x.image(false));
        for (int what = 0; what < 12; what++) {
            C.due("look(" + what + ")", x.look(what), what == 10 ? 0 : looks[what]);
        }
        C.yes("all else", Worn.picture(x).replaceFirst("look( \\S+){12}", "").equals(then));
    }

    private static void imageHoldsNot() {
        C.sentence("but the TAPE, fault() and what can be undone (nothing then),");
        PulledJersey x = Worn.make();
        x.image(true);
        x.end(3);
        x.image(false);
        C.no("the TAPE is as it is", x.end(4));
        C.yes("the TAPE is as it is", x.end(3));
        C.due("fault(0)", x.fault(0), 1);
        x.end(0);
        x.text();
        x.image(false);
        C.due("fault(0) is as it is", x.fault(0), 0);
        C.due("fault(1) is as it is", x.fault(1), NONE);
        x.gone(1);
        x.image(false);
        C.due("nothing can be undone", x.look(10), 0);
        C.no("undo()", x.undo());
    }

    private static void allBack(PulledJersey x) {
        for (int s = 0; s < 48; s++) {
            if (s % 8 < 6) {
                x.set(3, s, 0);
            }
        }
    }

    private static void twentyPulls(PulledJersey x, int first) {
        for (int i = 0; i < 20; i++) {
            x.pull(35, 0, i % 2 == first ? 2 : 1);
        }
    }

    /** BOOK and LENGTHS are full then, by one of two ways that have no line and no LENGTH in common. */
    private static void fill(PulledJersey x, int sort) {
        x.cloth(6, 6);
        x.set(2, 0, 0);
        Checks.tell(x, "run 1000 when hour<6;run 0;");
        if (sort == 0) {
            twentyPulls(x, 0);
            allBack(x);
            x.hours(6);
        } else {
            x.hours(6);
            allBack(x);
            twentyPulls(x, 1);
        }
        allBack(x);
        for (int i = 0; i < 34; i++) {
            x.gone(i / 6 + 8 * (sort == 0 ? i % 6 : 5 - i % 6));
            if (i % 3 == sort) {
                x.hours(1 + sort);
            }
        }
    }

    private static String fullRows(PulledJersey x) {
        StringBuilder all = new StringBuilder();
        for (int i = 0; i < 20; i++) {
            all.append(x.wound(i)).append(' ');
        }
        for (int i = 1; i < 100; i += 2) {
            all.append(x.book(i, 0)).append('-').append(x.book(i, 1)).append('-').append(x.book(i, 2)).append(' ');
        }
        return all.toString();
    }

    private static void imageOfFullRows() {
        C.sentence("THE IMAGE: all that is and was told but");
        PulledJersey x = new PulledJersey();
        fill(x, 0);
        C.yes("image(true)", x.image(true));
        fill(x, 1);
        C.yes("image(false)", x.image(false));
        C.due("LENGTHS as they were", x.look(4), 20);
        C.due("lines as they were", x.look(5), 100);
        PulledJersey twin = new PulledJersey();
        fill(twin, 0);
        String then = fullRows(twin);
        C.yes("each of them as it was", fullRows(x).equals(then));
        PulledJersey other = new PulledJersey();
        fill(other, 1);
        C.no("the other way makes other lines", fullRows(other).equals(then));
    }

    private static void imageAsItWas() {
        C.sentence("as it was when it was taken;");
        PulledJersey x = new PulledJersey();
        x.gone(1);
        x.image(true);
        x.gone(2);
        x.set(0, 5, 1);
        x.image(false);
        C.due("1 is GONE", x.of(1, 1), 0);
        C.due("2 is HERE", x.of(2, 1), 1);
        C.due("one line", x.look(5), 1);
        x.gone(3);
        x.image(true);
        x.gone(2);
        x.image(false);
        C.due("3 is GONE by the image taken anew", x.of(3, 1), 0);
        C.due("2 is HERE", x.of(2, 1), 1);
        C.due("book(1, 1)", x.book(1, 1), 3);
    }

    private static void imageMoreThanOnce() {
        C.sentence("gone back to it may be more than once.");
        PulledJersey x = Worn.make();
        x.image(false);
        String then = Worn.picture(x);
        for (int time = 0; time < 2; time++) {
            x.hours(5);
            x.gone(20);
            x.set(2, 0, 1 - x.look(2));
            C.yes("image(false) once more", x.image(false));
            C.yes("the same", Worn.picture(x).equals(then));
        }
    }
}
