import java.io.IOException;
import java.nio.file.Files;
import java.nio.file.Path;

/** Counts answers that are as due and prints those that are not. */
final class Checks {
    private static final Path DOCUMENT = Path.of("../shared/DOC.md");

    /** One call of an object; a boolean answers 1 or 0. */
    interface Call {
        long on(PulledJersey x);
    }

    private final String name;
    private int right;
    private int wrong;
    private String about = "";

    Checks(String name) {
        this.name = name;
    }

    void about(String promise) {
        about = promise;
    }

    /** A sentence word by word as the document has it: the test of one that changed there is stale. */
    void sentence(String words) {
        about("'" + words + "'");
        yes("the document says so", document().contains(words));
    }

    private static String document() {
        try {
            return Files.readString(DOCUMENT);
        } catch (IOException e) {
            return "";
        }
    }

    void due(String call, long got, long want) {
        if (got == want) {
            right++;
        } else {
            wrong++;
            System.out.println(name + ", " + about + ": " + call + " answered " + got + ", due is " + want);
        }
    }

    void due(String call, boolean got, boolean want) {
        due(call, got ? 1 : 0, want ? 1 : 0);
    }

    void yes(String call, boolean got) {
        due(call, got, true);
    }

    void no(String call, boolean got) {
        due(call, got, false);
    }

    static long n(boolean b) {
        return b ? 1 : 0;
    }

    /**
     * That the call answers so and leaves all as it was: what shows, what can be undone, how it goes on then, the
     * image, the tape. It keeps within the 512 calls of an object.
     */
    void refused(String call, Call c, long answer) {
        PulledJersey x = Worn.make();
        PulledJersey twin = Worn.make();
        due(call, c.on(x), answer);
        same(call + " changed something", x, twin);
        while (twin.undo()) {
            yes("undo() behind " + call, x.undo());
        }
        no("undo() once more behind " + call, x.undo());
        Worn.goOn(x);
        Worn.goOn(twin);
        same(call + " changed what goes back, or how it goes on", x, twin);
        yes("image(false) behind " + call, x.image(false));
        twin.image(false);
        same(call + " changed the image", x, twin);
        no("one more byte on the tape behind " + call, x.end(Worn.TAPE + 1));
        yes("all bytes on the tape behind " + call, x.end(Worn.TAPE));
    }

    void refused(String call, Call c) {
        refused(call, c, PulledJersey.NONE);
    }

    void same(String what, PulledJersey x, PulledJersey twin) {
        String got = Worn.picture(x);
        String want = Worn.picture(twin);
        yes(what + ":\n" + got + "\n" + want + "\n", got.equals(want));
    }

    /** Tells a text whole: feeds it by twenties, ends it at its length. */
    static void feed(PulledJersey x, String text) {
        for (int from = 0; from < text.length(); from += 20) {
            int[] five = new int[5];
            for (int i = 0; i < 20; i++) {
                int sign = from + i < text.length() ? text.charAt(from + i) : ' ';
                five[i / 4] = five[i / 4] << 8 | sign;
            }
            x.feed(five[0], five[1], five[2], five[3], five[4]);
        }
        x.end(text.length());
    }

    static int tell(PulledJersey x, String text) {
        x.end(0);
        feed(x, text);
        return x.text();
    }

    /** That the text has the fault at the place, and that the law stays and the tape is empty. */
    void faulty(String text, int fault, int place) {
        PulledJersey x = new PulledJersey();
        tell(x, "run 1;run 2;run 3;");
        due(text, tell(x, text), PulledJersey.NONE);
        due("fault(0) of " + text, x.fault(0), fault);
        due("fault(1) of " + text, x.fault(1), place);
        due("look(9) behind " + text, x.look(9), 3);
        no("end(1) behind " + text, x.end(1));
    }

    /** Stitch 10 is loose: kind 3, row 1, column 2, beside 1, below 1, hour 7, gone 2. */
    static PulledJersey loose() {
        PulledJersey x = new PulledJersey();
        x.set(0, 10, 3);
        x.gone(26);
        x.gone(18);
        x.gone(9);
        tell(x, "run 0;");
        x.hours(7);
        return x;
    }

    /** A new cloth. */
    static PulledJersey cloth(int w, int h) {
        PulledJersey x = new PulledJersey();
        x.cloth(w, h);
        return x;
    }

    void odds(String text, int want) {
        PulledJersey x = loose();
        tell(x, text);
        due("fault(0) of " + text, x.fault(0), 0);
        due("odds by " + text, x.of(10, 5), want);
    }

    void close() {
        System.out.println(name + ": " + right + " right, " + wrong + " wrong");
        if (wrong != 0 || right == 0) {
            System.exit(1);
        }
    }
}
