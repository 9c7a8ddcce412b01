/** Promises 25 and 26: what goes back, and the image. */
public final class UndoTests {
    private static final int NONE = PulledJersey.NONE;
    private static final Checks C = new Checks("UndoTests");

    public static void main(String[] args) {
        nothing();
        eachGoesBack();
        eightAreKept();
        eachHourIsOne();
        whatForgets();
        whatDoesNotForget();
        image();
        imageIsWhole();
        imageHoldsNoTape();
        C.close();
    }

    private static void nothing() {
        C.about("25 undo, nothing");
        PulledJersey x = new PulledJersey();
        C.no("undo()", x.undo());
        x.gone(99);
        x.cut(15);
        x.pull(3, 0, 1);
        x.hours(0);
        C.no("undo() of what could not be", x.undo());
    }

    private static void eachGoesBack() {
        C.about("25 undo, each");
        PulledJersey x = new PulledJersey();
        Checks.tell(x, "run 1000;");
        x.set(2, 0, 0);
        x.cut(3);
        x.pull(15, 0, 2);
        x.gone(0);
        x.hours(1);
        // 16, 17, 26 and 27 ran.
        C.due("look(3)", x.look(3), 7);
        C.due("look(5)", x.look(5), 7);
        int state = x.look(7);
        C.due("a draw was", state == 0, false);
        C.yes("undo() of the hour", x.undo());
        C.due("look(6)", x.look(6), 0);
        C.due("look(7)", x.look(7), 0);
        C.due("look(5)", x.look(5), 3);
        C.due("look(3)", x.look(3), 3);
        C.yes("undo() of the going", x.undo());
        C.due("of(0, 1)", x.of(0, 1), 1);
        C.due("look(5)", x.look(5), 2);
        C.due("book(2, 1)", x.book(2, 1), NONE);
        C.yes("undo() of the pull", x.undo());
        C.due("look(4)", x.look(4), 0);
        C.due("look(5)", x.look(5), 0);
        C.due("look(11)", x.look(11), 0);
        C.due("of(24, 1)", x.of(24, 1), 1);
        C.due("of(24, 6)", x.of(24, 6), 0);
        C.due("look(8)", x.look(8), 1);
        C.yes("undo() of the cut", x.undo());
        C.due("look(8)", x.look(8), 0);
        C.due("look(10)", x.look(10), 0);
        C.no("undo()", x.undo());
        C.due("look(2) stays", x.look(2), 0);
        C.due("look(9) stays", x.look(9), 1);
        x.pull(15, 0, 1);
        C.due("a pull of none is kept, too", x.look(10), 1);
    }

    private static void eightAreKept() {
        C.about("25 undo, eight");
        PulledJersey x = new PulledJersey();
        for (int k = 0; k < 11; k++) {
            x.cut(k);
            C.due("look(10)", x.look(10), Math.min(8, k + 1));
        }
        for (int k = 10; k > 2; k--) {
            C.yes("undo()", x.undo());
            C.due("at(" + k + ", 1)", x.at(k, 1), 0);
            C.due("look(8)", x.look(8), k);
            C.due("look(10)", x.look(10), k - 3);
        }
        C.no("undo()", x.undo());
        C.due("look(8)", x.look(8), 3);
        x.cut(7);
        x.cut(8);
        C.yes("undo()", x.undo());
        x.cut(9);
        C.yes("undo()", x.undo());
        C.yes("undo()", x.undo());
        C.no("undo()", x.undo());
        C.due("look(8)", x.look(8), 3);
    }

    private static void eachHourIsOne() {
        C.about("25 undo, each hour is one");
        PulledJersey x = new PulledJersey();
        x.hours(3);
        C.due("look(10)", x.look(10), 3);
        C.yes("undo()", x.undo());
        C.due("look(6)", x.look(6), 2);
        x.hours(100);
        C.due("look(10)", x.look(10), 8);
        for (int i = 0; i < 8; i++) {
            C.yes("undo()", x.undo());
        }
        C.no("undo()", x.undo());
        C.due("look(6)", x.look(6), 94);
    }

    private static PulledJersey withOne() {
        PulledJersey x = new PulledJersey();
        x.image(true);
        x.gone(9);
        return x;
    }

    private static void whatForgets() {
        C.about("25 undo, what forgets");
        PulledJersey x = withOne();
        x.state(0);
        C.no("behind state", x.undo());
        x = withOne();
        x.cloth(4, 4);
        C.no("behind cloth", x.undo());
        for (int what = 0; what < 4; what++) {
            x = withOne();
            x.set(what, 0, 0);
            C.no("behind set " + what, x.undo());
        }
        x = withOne();
        x.image(false);
        C.no("behind image(false)", x.undo());
        C.due("look(3)", x.look(3), 0);
    }

    private static void whatDoesNotForget() {
        C.about("25 undo, what does not forget");
        PulledJersey x = withOne();
        x.image(true);
        C.due("image(true)", x.look(10), 1);
        Checks.tell(x, "run 1;");
        C.due("a text", x.look(10), 1);
        Checks.tell(x, "walk 1;");
        C.due("a text with a fault", x.look(10), 1);
        x.cloth(1, 1);
        x.set(0, 0, 9);
        x.set(9, 0, 0);
        C.due("what could not be", x.look(10), 1);
        x.runs(0, 0);
        x.save(3, 0);
        x.all(0);
        C.due("thoughts", x.look(10), 1);
        PulledJersey y = new PulledJersey();
        y.gone(0);
        C.no("no image", y.image(false));
        C.due("no image", y.look(10), 1);
    }

    private static void image() {
        C.about("26 image");
        PulledJersey x = new PulledJersey();
        C.no("image(false)", x.image(false));
        C.yes("image(true)", x.image(true));
        x.gone(0);
        C.yes("image(false)", x.image(false));
        C.due("look(3)", x.look(3), 0);
        C.due("look(5)", x.look(5), 0);
        x.gone(1);
        x.gone(2);
        C.yes("image(false) once more", x.image(false));
        C.due("look(3)", x.look(3), 0);
        x.gone(3);
        C.yes("image(true) anew", x.image(true));
        x.gone(2);
        C.yes("image(false)", x.image(false));
        C.due("look(3)", x.look(3), 1);
        C.due("of(3, 1)", x.of(3, 1), 0);
        C.due("book(0, 1)", x.book(0, 1), 3);
    }

    private static void imageIsWhole() {
        C.about("26 image, whole");
        PulledJersey x = new PulledJersey();
        x.cloth(5, 3);
        x.state(42);
        Checks.tell(x, "run 0 when 1=1;run 1;");
        x.set(2, 0, 0);
        x.set(0, 7 - 4, 3);
        x.set(1, 1, 1);
        x.cut(0);
        x.hours(2);
        x.pull(14, 0, 2);
        x.gone(0);
        x.image(true);
        int[] looks = new int[12];
        for (int i = 0; i < 12; i++) {
            looks[i] = x.look(i);
        }
        looks[10] = 0;
        for (int time = 0; time < 2; time++) {
            x.cloth(6, 6);
            x.state(9);
            Checks.tell(x, "run 10;");
            x.set(2, 0, 0);
            x.hours(5);
            x.set(2, 0, 1);
            x.set(2, 0, 0);
            x.cut(20);
            x.pull(35, 0, 7);
            C.yes("image(false)", x.image(false));
            for (int i = 0; i < 12; i++) {
                C.due("look(" + i + ")", x.look(i), looks[i]);
            }
            C.due("kind", x.of(3, 0), 3);
            C.due("caught", x.of(1, 2), 1);
            C.due("wound", x.of(20, 6), 1);
            C.due("wound(0)", x.wound(0), 6);
            C.due("book(0, 1)", x.book(0, 1), 20);
            C.due("book(0, 0)", x.book(0, 0), 2);
            C.due("book(2, 2)", x.book(2, 2), 0);
            C.due("cut", x.at(0, 1), 1);
            C.due("the law's odds", x.of(18, 5), 0);
            // Three of row 2, five of row 1, three of row 0: then 1 is caught.
            C.due("the pull goes on", x.pull(14, 0, 36), 11);
        }
    }

    private static void imageHoldsNoTape() {
        C.about("26 image, no tape and no fault");
        PulledJersey x = new PulledJersey();
        x.feed(0, 0, 0, 0, 0);
        x.image(true);
        x.feed(0, 0, 0, 0, 0);
        x.image(false);
        C.due("the tape stays", x.feed(0, 0, 0, 0, 0), 60);
        C.due("text()", x.text(), NONE);
        x.image(false);
        C.due("fault(0) stays", x.fault(0), 1);
        C.due("fault(1) stays", x.fault(1), 0);
    }
}
