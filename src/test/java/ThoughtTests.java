/** Promises 13 to 24 and 27: what can be asked; nothing of it changes anything. */
public final class ThoughtTests {
    private static final int NONE = PulledJersey.NONE;
    private static final Checks C = new Checks("ThoughtTests");

    public static void main(String[] args) {
        of();
        at();
        woundAndBook();
        runs();
        save();
        saveOfFew();
        comes();
        all();
        part();
        join();
        quiet();
        first();
        look();
        nothingStays();
        C.close();
    }

    private static void of() {
        C.about("13 of");
        PulledJersey x = new PulledJersey();
        int[] wrong = {4, 7, 12, 32, 48, 64, -1, -8, Integer.MIN_VALUE, Integer.MAX_VALUE};
        for (int s : wrong) {
            for (int what = 0; what < 7; what++) {
                C.due("of(" + s + ", " + what + ")", x.of(s, what), NONE);
            }
        }
        C.due("of(0, 7)", x.of(0, 7), NONE);
        C.due("of(0, -1)", x.of(0, -1), NONE);
        x.set(0, 17, 3);
        C.due("kind", x.of(17, 0), 3);
        x.gone(17);
        C.due("kind of a gone one", x.of(17, 0), 3);
        C.due("here", x.of(17, 1), 0);
        C.due("held", x.of(17, 3), 0);
        C.due("place", x.of(17, 4), 9);
        C.due("odds of a gone one", x.of(17, 5), 0);
        C.due("odds of a loose one", x.of(9, 5), 500);
        C.due("odds of a held one", x.of(10, 5), 0);
    }

    private static void at() {
        C.about("14 at");
        PulledJersey x = new PulledJersey();
        x.cloth(3, 4);
        int[] thread = {0, 1, 2, 10, 9, 8, 16, 17, 18, 26, 25, 24};
        for (int k = 0; k < thread.length; k++) {
            C.due("at(" + k + ", 0)", x.at(k, 0), thread[k]);
            C.due("its place", x.of(thread[k], 4), k);
            C.due("at(" + k + ", 1)", x.at(k, 1), 0);
            C.due("at(" + k + ", 2)", x.at(k, 2), k == 11 ? 1 : 0);
            C.due("at(" + k + ", 3)", x.at(k, 3), k == 0 ? 1 : 0);
            C.due("at(" + k + ", 4)", x.at(k, 4), NONE);
            C.due("at(" + k + ", -1)", x.at(k, -1), NONE);
        }
        for (int what = 0; what < 4; what++) {
            C.due("at(12)", x.at(12, what), NONE);
            C.due("at(-1)", x.at(-1, what), NONE);
            C.due("at(max)", x.at(Integer.MAX_VALUE, what), NONE);
        }
    }

    private static void woundAndBook() {
        C.about("15 wound, 16 book");
        PulledJersey x = new PulledJersey();
        C.due("wound(0)", x.wound(0), NONE);
        C.due("book(0, 0)", x.book(0, 0), NONE);
        x.set(2, 0, 0);
        x.pull(15, 0, 2);
        x.pull(15, 0, 1);
        C.due("wound(0)", x.wound(0), 6);
        C.due("wound(1)", x.wound(1), 3);
        C.due("wound(2)", x.wound(2), NONE);
        C.due("wound(-1)", x.wound(-1), NONE);
        C.due("wound(min)", x.wound(Integer.MIN_VALUE), NONE);
        C.due("book(2, 1)", x.book(2, 1), 26);
        C.due("book(2, 3)", x.book(2, 3), NONE);
        C.due("book(2, -1)", x.book(2, -1), NONE);
        C.due("book(3, 1)", x.book(3, 1), NONE);
        C.due("book(-1, 1)", x.book(-1, 1), NONE);
        C.due("book(max, 1)", x.book(Integer.MAX_VALUE, 1), NONE);
    }

    private static void runs() {
        C.about("17 runs");
        PulledJersey x = new PulledJersey();
        C.due("runs(27, 0)", x.runs(27, 0), 3);
        C.due("runs(27, 1)", x.runs(27, 1), 0);
        C.due("runs(3, 0)", x.runs(3, 0), 0);
        C.due("runs(3, 1)", x.runs(3, 1), NONE);
        C.due("runs(27, 2)", x.runs(27, 2), NONE);
        C.due("runs(27, -1)", x.runs(27, -1), NONE);
        C.due("runs(4, 0)", x.runs(4, 0), NONE);
        C.due("runs(-1, 0)", x.runs(-1, 0), NONE);
        C.due("runs(64, 0)", x.runs(64, 0), NONE);
        x.set(0, 26, 3);
        C.due("18 is held yet by nobody else", x.runs(26, 0), 3);
        C.due("19 is held by 26, too", x.runs(27, 0), 0);
        C.due("its row", x.runs(27, 1), NONE);
        x.set(1, 2, 1);
        C.due("2 is caught", x.runs(26, 0), 2);
        C.due("least row", x.runs(26, 1), 1);
        x.gone(24);
        C.due("those loose already, too", x.runs(26, 0), 5);
        C.due("least row", x.runs(26, 1), 0);
        C.due("one that is loose itself", x.runs(16, 0), 2);
        C.due("gone", x.runs(24, 0), NONE);
    }

    private static void save() {
        C.about("18 save");
        PulledJersey x = new PulledJersey();
        x.gone(24);
        x.gone(26);
        C.due("save(0, 0)", x.save(0, 0), 6);
        C.due("save(0, 1)", x.save(0, 1), NONE);
        C.due("save(1, 0)", x.save(1, 0), 3);
        C.due("save(1, 1)", x.save(1, 1), 16);
        C.due("save(1, 2)", x.save(1, 2), NONE);
        C.due("save(2, 0)", x.save(2, 0), 0);
        C.due("save(2, 1)", x.save(2, 1), 16);
        C.due("save(2, 2)", x.save(2, 2), 18);
        C.due("save(3, 1)", x.save(3, 1), 0);
        C.due("save(3, 2)", x.save(3, 2), 16);
        C.due("save(3, 3)", x.save(3, 3), 18);
        x.gone(27);
        C.due("save(2, 0) of three runs", x.save(2, 0), 3);
        C.due("save(2, 1)", x.save(2, 1), 16);
        C.due("save(2, 2)", x.save(2, 2), 18);
        C.due("save(3, 0)", x.save(3, 0), 0);
        C.due("save(3, 3)", x.save(3, 3), 19);
        x.set(1, 16, 1);
        C.due("save(1, 1) with 16 caught", x.save(1, 1), 18);
        C.due("save(1, 0)", x.save(1, 0), 3);
        int[][] wrong = {{4, 0}, {-1, 0}, {0, 4}, {0, -1}, {3, 4}, {Integer.MAX_VALUE, 0}, {0, Integer.MIN_VALUE}};
        for (int[] one : wrong) {
            C.due("save(" + one[0] + ", " + one[1] + ")", x.save(one[0], one[1]), NONE);
        }
    }

    private static void saveOfFew() {
        C.about("18 save, of all");
        PulledJersey all = new PulledJersey();
        all.cloth(6, 6);
        all.set(2, 0, 0);
        C.due("save(0, 0)", all.save(0, 0), 36);
        C.due("save(1, 0)", all.save(1, 0), 30);
        C.due("save(1, 1)", all.save(1, 1), 40);
        C.due("save(3, 0)", all.save(3, 0), 18);
        C.due("save(3, 1)", all.save(3, 1), 40);
        C.due("save(3, 2)", all.save(3, 2), 41);
        C.due("save(3, 3)", all.save(3, 3), 42);
        // With 40 doubled it holds two columns below it.
        all.set(0, 40, 3);
        C.due("save(1, 0), doubled", all.save(1, 0), 36 - 11);
        C.about("18 save, of few");
        PulledJersey x = new PulledJersey();
        x.cloth(2, 2);
        x.set(2, 0, 0);
        C.due("save(3, 0)", x.save(3, 0), 0);
        C.due("save(3, 1)", x.save(3, 1), 0);
        C.due("save(3, 2)", x.save(3, 2), 8);
        C.due("save(3, 3)", x.save(3, 3), 9);
        x.set(1, 9, 1);
        x.gone(1);
        x.gone(0);
        C.due("one is free: save(2, 0)", x.save(2, 0), 0);
        C.due("save(2, 1)", x.save(2, 1), 8);
        C.due("save(2, 2)", x.save(2, 2), NONE);
        C.due("save(3, 3)", x.save(3, 3), NONE);
        x.gone(8);
        x.gone(9);
        C.due("none is here: save(3, 0)", x.save(3, 0), 0);
        C.due("save(3, 1)", x.save(3, 1), NONE);
    }

    private static void comes() {
        C.about("19 comes");
        PulledJersey x = new PulledJersey();
        x.set(2, 0, 0);
        C.due("comes(15, 0, 0)", x.comes(15, 0, 0), 16);
        C.due("comes(15, 0, 1)", x.comes(15, 0, 1), NONE);
        C.due("comes(0, 1, 0)", x.comes(0, 1, 0), 0);
        C.due("comes(0, 1, 1)", x.comes(0, 1, 1), 0);
        x.set(1, 26, 1);
        C.due("ahead of the caught one", x.comes(15, 0, 0), 2);
        C.due("its place", x.comes(15, 0, 1), 13);
        x.cut(14);
        C.due("to the cut", x.comes(15, 0, 0), 1);
        C.due("no place there", x.comes(15, 0, 1), NONE);
        C.due("from the cut back", x.comes(14, 0, 1), 13);
        C.due("from the cut on", x.comes(15, 1, 0), 1);
        C.due("comes(15, 1, 1)", x.comes(15, 1, 1), NONE);
        int[][] wrong = {{14, 1, 0}, {0, 0, 0}, {15, 2, 0}, {15, -1, 0}, {16, 0, 0}, {-1, 1, 0}, {15, 0, 2}, {15, 0, -1}};
        for (int[] one : wrong) {
            C.due("comes(" + one[0] + ", " + one[1] + ", " + one[2] + ")", x.comes(one[0], one[1], one[2]), NONE);
        }
    }

    private static void all() {
        C.about("20 all");
        PulledJersey x = new PulledJersey();
        C.due("all(0), bound", x.all(0), NONE);
        x.set(2, 0, 0);
        C.due("all(0)", x.all(0), 15);
        C.due("all(1)", x.all(1), 0);
        C.due("all(2)", x.all(2), NONE);
        C.due("all(-1)", x.all(-1), NONE);
        x.cut(7);
        C.due("all(0), cut", x.all(0), NONE);
        for (int k = 15; k > 7; k--) {
            x.gone(x.at(k, 0));
        }
        C.due("all(0) of the lower part", x.all(0), 7);
        C.due("all(1)", x.all(1), 0);
        for (int s = 8; s < 12; s++) {
            x.set(0, s, 2);
        }
        // No row holds another now: from place 0 by the way on it all comes, too.
        C.due("all(0), least place", x.all(0), 0);
        C.due("all(1)", x.all(1), 1);
        x.cut(0);
        x.gone(0);
        C.due("from 1 on", x.all(0), 1);
        C.due("from 1 on, way", x.all(1), 1);
        PulledJersey y = new PulledJersey();
        y.cloth(2, 2);
        y.gone(1);
        y.gone(8);
        y.gone(9);
        y.cut(0);
        C.due("one by both ways: place", y.all(0), 0);
        C.due("way 0 first", y.all(1), 0);
        y.gone(0);
        C.due("nothing here", y.all(0), NONE);
        C.due("nothing here", y.all(1), NONE);
    }

    private static void part() {
        C.about("21 part");
        PulledJersey x = new PulledJersey();
        C.due("the whole", x.part(0, 3, 0, 3), 0);
        C.due("row 0", x.part(0, 3, 0, 0), 1);
        C.due("row 1", x.part(0, 3, 1, 1), 2);
        // Places 0, 7 and 8, 15: the thread turns from 7 to 8 within it.
        C.due("column 0", x.part(0, 0, 0, 3), 4);
        C.due("stitch 9", x.part(1, 1, 1, 1), 2);
        x.cut(3);
        C.due("row 0, cut", x.part(0, 3, 0, 0), 0);
        x.gone(9);
        C.due("gone, not wound", x.part(1, 1, 1, 1), 2);
        x.set(2, 0, 0);
        x.pull(15, 0, 5);
        // Places 11 to 15 are wound: the thread from 10 to 11 hangs no more.
        C.due("row 2 but 19", x.part(0, 2, 2, 2), 1);
        C.due("row 3", x.part(0, 3, 3, 3), 0);
        C.due("column 3", x.part(3, 3, 0, 3), 2);
        int[][] wrong = {{1, 0, 0, 0}, {0, 0, 1, 0}, {-1, 0, 0, 0}, {0, 4, 0, 0}, {0, 0, -1, 0}, {0, 0, 0, 4},
            {4, 4, 0, 0}, {0, 0, 4, 4}, {Integer.MIN_VALUE, 0, 0, 0}, {0, Integer.MAX_VALUE, 0, 0}};
        for (int[] one : wrong) {
            C.due("part(" + one[0] + ", " + one[1] + ", " + one[2] + ", " + one[3] + ")",
                x.part(one[0], one[1], one[2], one[3]), NONE);
        }
    }

    private static void join() {
        C.about("22 join");
        PulledJersey x = new PulledJersey();
        C.due("join(1)", x.join(1), NONE);
        x.set(2, 0, 0);
        x.pull(15, 0, 1);
        x.pull(15, 0, 3);
        x.pull(15, 0, 1);
        x.pull(15, 0, 2);
        // 3, 9, 3, 6
        int[] fewest = {1, 1, 1, 1, 1, 1, 1, 1, 1, 2, 2, 2, 2, 2, 2, 3, 3, 3, 4, 4, 4};
        for (int v = 1; v <= 21; v++) {
            C.due("join(" + v + ")", x.join(v), fewest[v - 1]);
        }
        C.due("join(22)", x.join(22), NONE);
        C.due("join(0)", x.join(0), NONE);
        C.due("join(-5)", x.join(-5), NONE);
        C.due("join(max)", x.join(Integer.MAX_VALUE), NONE);
    }

    private static void quiet() {
        C.about("23 quiet");
        PulledJersey x = new PulledJersey();
        C.due("quiet()", x.quiet(), 1000000);
        x.gone(24);
        C.due("quiet()", x.quiet(), 500000);
        x.gone(25);
        C.due("quiet()", x.quiet(), 250000);
        Checks.tell(x, "run 333 when column=0;run 777;");
        C.due("quiet()", x.quiet(), 667000 * 223 / 1000);
        x.gone(26);
        C.due("downwards", x.quiet(), 667000 * 223 / 1000 * 223 / 1000);
        x.gone(27);
        C.due("downwards each time", x.quiet(), 667000 * 223 / 1000 * 223 / 1000 * 223 / 1000);
        Checks.tell(x, "run 1000;");
        C.due("sure", x.quiet(), 0);
        Checks.tell(x, "run 0;");
        C.due("never", x.quiet(), 1000000);
    }

    private static void first() {
        C.about("24 first");
        PulledJersey x = new PulledJersey();
        C.due("a whole one", x.first(0), 0);
        C.due("first(1)", x.first(1), NONE);
        x.gone(0);
        C.due("first(0)", x.first(0), 1);
        C.due("first(1)", x.first(1), 0);
        x.gone(16);
        C.due("8 would be gone, too", x.first(0), 0);
        x.gone(8);
        C.due("first(0)", x.first(0), 1);
        C.due("first(1)", x.first(1), 16);
        x.set(1, 16, 1);
        C.due("a caught one can go all the same", x.first(1), 16);
        x.set(1, 8, 1);
        C.due("8 caught would be here", x.first(0), 0);
        PulledJersey y = new PulledJersey();
        y.set(2, 0, 0);
        C.due("all runs anyway", y.first(0), 0);
        for (int k = 0; k < 16; k++) {
            y.gone(y.at(k, 0));
        }
        C.due("by each of them", y.first(0), 16);
        C.due("the least", y.first(1), 0);
        C.due("first(2)", y.first(2), NONE);
        C.due("first(-1)", y.first(-1), NONE);
    }

    private static void look() {
        C.about("27 look");
        PulledJersey x = new PulledJersey();
        x.cloth(5, 3);
        x.state(42);
        Checks.tell(x, "run 0 when 1=1;run 1;run 2;");
        x.set(2, 0, 0);
        x.cut(0);
        x.cut(1);
        x.hours(2);
        x.pull(14, 0, 2);
        x.gone(0);
        int[] looks = {5, 3, 0, 3, 1, 3, 2, 42, 2, 3, 6, 6};
        for (int i = 0; i < looks.length; i++) {
            C.due("look(" + i + ")", x.look(i), looks[i]);
        }
        C.due("look(12)", x.look(12), NONE);
        C.due("look(-1)", x.look(-1), NONE);
        C.due("look(min)", x.look(Integer.MIN_VALUE), NONE);
    }

    private static String picture(PulledJersey x) {
        StringBuilder all = new StringBuilder();
        for (int i = 0; i < 12; i++) {
            all.append(x.look(i)).append(' ');
        }
        for (int s = 0; s < 48; s++) {
            for (int what = 0; what < 7; what++) {
                all.append(x.of(s, what)).append(' ');
            }
        }
        return all.toString();
    }

    private static void nothingStays() {
        C.about("3 in thought, nothing stays");
        PulledJersey x = new PulledJersey();
        x.set(2, 0, 0);
        x.gone(25);
        x.cut(9);
        String ahead = picture(x);
        x.runs(24, 0);
        x.save(3, 1);
        x.comes(15, 0, 0);
        x.comes(9, 0, 1);
        x.all(0);
        x.part(0, 1, 0, 1);
        x.join(3);
        x.quiet();
        x.first(0);
        C.yes("the same", picture(x).equals(ahead));
        C.due("no line", x.look(5), 1);
    }
}
