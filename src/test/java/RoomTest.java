import com.sun.management.ThreadMXBean;
import java.lang.management.ManagementFactory;

/** All calls of one run live in one room, so a desk makes its rows once and uses them again. */
public final class RoomTest {
    /** A long takes 8 bytes: less than 19,000 of the 7.3 million fields and elements. */
    private static final long ROOM = 150_000;
    private static final int CALLS = 512;

    private static long taken() {
        return ((ThreadMXBean) ManagementFactory.getThreadMXBean()).getCurrentThreadAllocatedBytes();
    }

    public static void main(String[] args) {
        run();
        long before = taken();
        run();
        long room = taken() - before;
        Check.due("bytes of a desk and its calls, " + room + ", are within " + ROOM, room <= ROOM, true);
        Check.end("RoomTest");
    }

    // Ten pieces, fourteen players, a rule and all dear calls, over and over.
    private static void run() {
        TownBand x = Check.band(14);
        for (int p = 0; p < 14; p++) {
            x.plays(p, p % 10, p % 10);
        }
        Check.due("load of ten pieces", Check.load(x, pieces()), 10);
        Check.due("a rule", Check.rule(x, "!(out+past<3)|age=day-days"), 14);
        Check.due("programme of ten pieces", x.programme(600, 18), 600);
        x.tell(0, 0, 0);
        for (int used = 140; used + 8 <= CALLS; used += 8) {
            int k = used / 8 % 10;
            x.here(k, used % 16 == 0);
            x.programme(600, 18);
            x.seat(k);
            x.again(k);
            x.lacks(k);
            x.count(3);
            x.copies(0, 999, 1);
            x.may(k, 999);
        }
    }

    private static String pieces() {
        StringBuilder s = new StringBuilder();
        for (int k = 0; k < 10; k++) {
            s.append("piece ").append((char) ('a' + k)).append(":60 9 11,must ").append(k).append(",may 2 or 3,may 4;");
        }
        return s.toString();
    }
}
