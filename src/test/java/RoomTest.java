import java.lang.management.ManagementFactory;

/** What the calls of a run take of the one room: objects are made by the constructor alone. */
public final class RoomTest {
    private static final com.sun.management.ThreadMXBean ROOM =
            (com.sun.management.ThreadMXBean) ManagementFactory.getThreadMXBean();

    public static void main(String[] args) {
        TrickHouse x = Due.of(Due.SIX);
        all(x);
        long before = ROOM.getCurrentThreadAllocatedBytes();
        for (int run = 0; run < 1000; run++) {
            all(x);
        }
        long perRun = (ROOM.getCurrentThreadAllocatedBytes() - before) / 1000;
        Due.due("bytes that a run of calls takes, " + perRun + ", are none or next to none", perRun / 16, 0);
        Due.end();
    }

    /** Each call of the face once at least. */
    private static void all(TrickHouse x) {
        x.city(0, 0, 0, 42);
        x.ofArticle(0, 4);
        x.space(0);
        x.cheer(3, 1);
        x.miss(0, 1);
        x.widen(0, 9);
        x.shift(9);
        x.there();
        x.company(63);
        for (int a = 0; a < 6; a++) {
            x.send(a);
        }
        x.call(3);
        x.laughter();
        x.heard(0);
        x.packs(63, 0);
        x.fetch(0);
        x.lure(0);
        x.reading(0, 0);
        x.back(0);
        x.gaieties(0);
        x.kinds(0);
        x.wheres(0);
        x.odds(0, 0);
        x.sheet(1, 2, 60);
        x.put(1, 0, 1);
        x.year(1, 2, 2, 1, 0);
        x.cell(1, 0, 2);
        x.copy(1, 0, 1, 1, 5);
        x.lose(1);
        x.tell(0);
        x.announce(0);
        x.as(0, 2);
        x.trace();
        x.fault();
        x.many(0);
    }
}
