import java.lang.management.ManagementFactory;

/** All calls of a run live in one room: what an object takes, and that its calls take nothing. */
public final class RoomTests {
    private static final Checks C = new Checks("RoomTests");
    private static final com.sun.management.ThreadMXBean ROOM =
        (com.sun.management.ThreadMXBean) ManagementFactory.getThreadMXBean();

    public static void main(String[] args) {
        C.about("the room");
        calls(new PulledJersey());
        long ahead = ROOM.getCurrentThreadAllocatedBytes();
        PulledJersey x = new PulledJersey();
        long made = ROOM.getCurrentThreadAllocatedBytes();
        calls(x);
        long called = ROOM.getCurrentThreadAllocatedBytes();
        C.yes("an object takes " + (made - ahead) + " bytes", made - ahead < 32768);
        C.yes("its calls take " + (called - made) + " bytes", called - made < 1024);
        C.close();
    }

    private static void calls(PulledJersey x) {
        x.cloth(6, 6);
        for (int i = 0; i < 20; i++) {
            x.feed(0x72756e20, 0x726f772a, 0x372b3520, 0x7768656e, 0x20313d31);
            x.feed(0x20616e64, 0x206e6f74, 0x2028323d, 0x33293b20, 0x20202020);
            x.text();
            x.set(0, 9 + i, i & 3);
            x.set(2, 0, i & 1);
            x.cut(i);
            x.gone(40 + i % 6);
            x.pull(35, 0, 3);
            x.hours(10);
            x.image(i % 3 == 0);
            for (int what = 0; what < 12; what++) {
                x.look(what);
                x.of(16, what);
                x.at(3, what);
                x.book(i, what);
                x.save(3, what);
                x.runs(8, what);
                x.comes(35, 0, what);
                x.all(what);
                x.first(what);
            }
            x.part(0, 2, 1, 3);
            x.join(i);
            x.quiet();
            x.undo();
            x.wound(0);
            x.fault(0);
            x.state(i);
            x.end(0);
        }
    }
}
