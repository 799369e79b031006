import java.lang.management.ManagementFactory;

/** What a run makes: some rows with the object, and nothing by its calls (LANGUAGE.md, 12). */
public final class RoomTest {
    private static final com.sun.management.ThreadMXBean ROOM =
            (com.sun.management.ThreadMXBean) ManagementFactory.getThreadMXBean();

    private static RottenSeats kept;

    public static void main(String[] args) {
        // The first run is for what the machine itself makes when classes come in.
        full().gain(0, 0, 2);
        long before = made();
        kept = new RottenSeats();
        hold("an object", made() - before, 65536);
        RottenSeats x = full();
        before = made();
        for (int i = 0; i < 38; i++) {
            callsOf(x, i);
        }
        hold("304 calls", made() - before, 4096);
        hold("objects kept", kept.count(0), 0);
        Due.end();
    }

    private static long made() {
        return ROOM.getThreadAllocatedBytes(Thread.currentThread().getId());
    }

    private static void hold(String what, long bytes, long most) {
        if (bytes > most) {
            Due.fail(what + " makes " + bytes + " bytes, at most " + most);
        } else {
            Due.due(what, 0, 0);
        }
    }

    private static RottenSeats full() {
        RottenSeats x = new RottenSeats();
        Due.text(x, "h>0|p>0|g=1|d>0|y=1");
        for (int i = 0; i < 16; i++) {
            x.place(i % 3, i % 6);
            x.old(i, 0, 0);
            x.roll(i, 0, 0, i, i);
        }
        for (int i = 0; i < 40; i++) {
            x.person(i % 16, 0, i % 4, i % 6);
            x.right(i, i % 16, i % 3, 1, 0);
            x.member(i % 8, i % 9);
        }
        for (int i = 0; i < 9; i++) {
            x.line(i % 3, 1, 0, 0);
            x.want(i % 8, i, 9);
        }
        for (int night = 0; night < 5; night++) {
            x.read(night, 511);
            x.there(night, night, 5, 40);
        }
        return x;
    }

    private static void callsOf(RottenSeats x, int i) {
        x.gain(i % 9, 0, 2);
        x.nightOf(5, 9, i % 9);
        x.carry(i % 5, 0);
        x.elect(511, i % 16, 0, 4);
        x.worth(i % 16, 7, 0);
        x.furrows(i % 16, 0, 0);
        x.lot(i, 5);
        x.feed(1, i);
    }
}
