/** A cloth of which nothing is as at first, so that whatever a call changes can be seen. */
final class Worn {
    static final int TAPE = 7;

    /** Five by three: thread 0 .. 4, 12 .. 8, 16 .. 20; what goes back last is a cut. */
    static PulledJersey make() {
        PulledJersey x = new PulledJersey();
        x.cloth(5, 3);
        x.state(42);
        x.hours(1);
        Checks.tell(x, "run 900 when row=1;run 0 when row=2;run 3;");
        Checks.tell(x, "run ;");
        x.set(0, 9, 1);
        x.set(1, 1, 1);
        x.gone(3);
        x.image(true);
        x.set(0, 18, 2);
        x.set(0, 12, 3);
        x.set(1, 2, 1);
        x.set(2, 0, 0);
        x.cut(3);
        x.gone(0);
        x.pull(14, 0, 2);
        x.hours(2);
        x.cut(8);
        Checks.feed(x, "run 77;");
        return x;
    }

    static void goOn(PulledJersey x) {
        x.pull(14, 0, 1);
        x.hours(1);
    }

    static String picture(PulledJersey x) {
        StringBuilder all = new StringBuilder("look");
        for (int what = 0; what < 12; what++) {
            all.append(' ').append(x.look(what));
        }
        int w = x.look(0);
        for (int k = 0; k < w * x.look(1); k++) {
            int y = k / w;
            all.append("; ").append(x.at(k, 1));
            for (int what : new int[] {0, 1, 2, 5, 6}) {
                all.append(' ').append(x.of(8 * y + k % w, what));
            }
        }
        all.append("; wound");
        for (int i = x.look(4) - 1; i >= 0; i--) {
            all.append(' ').append(x.wound(i));
        }
        all.append("; book");
        for (int i = x.look(5) - 1; i >= 0; i--) {
            all.append(' ').append(x.book(i, 0)).append('-').append(x.book(i, 1)).append('-').append(x.book(i, 2));
        }
        return all.append("; fault ").append(x.fault(0)).append(' ').append(x.fault(1)).toString();
    }

    private Worn() {
    }
}
