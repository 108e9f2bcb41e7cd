import java.lang.management.ManagementFactory;

/**
 * All calls of a run live in one room: so what an object makes, in its constructor and in 512 calls of the dearest
 * kinds, has to stay small. It is measured in bytes, as the machine counts them.
 */
public final class RoomTest {
    private static final long MOST_FOR_AN_OBJECT = 40_000;
    private static final long MOST_FOR_ITS_CALLS = 20_000;
    private static int answers = 0;

    public static void main(String[] arguments) {
        com.sun.management.ThreadMXBean threads =
                (com.sun.management.ThreadMXBean) ManagementFactory.getThreadMXBean();
        long id = Thread.currentThread().getId();
        use(new DatalogMill());
        long start = threads.getThreadAllocatedBytes(id);
        DatalogMill mill = new DatalogMill();
        long made = threads.getThreadAllocatedBytes(id);
        use(mill);
        long used = threads.getThreadAllocatedBytes(id);
        boolean isGood = made - start <= MOST_FOR_AN_OBJECT && used - made <= MOST_FOR_ITS_CALLS;
        System.out.println((made - start) + " bytes for an object, " + (used - made) + " for its 512 calls ("
                + answers + ")" + (isGood ? "" : ", which is too much"));
        if (!isGood) {
            System.exit(1);
        }
    }

    /** 52 calls to make a world that is broken beyond repair, then 460 that change it and ask of it. */
    private static void use(DatalogMill m) {
        m.relation(2, DatalogMill.PLAIN);
        m.relation(2, DatalogMill.LEAST);
        m.relation(2, DatalogMill.PLAIN);
        m.relation(1, DatalogMill.PLAIN);
        for (int i = 0; i < 23; i++) {
            m.fact(0, i % 8, i * 7 % 11, 0, 1 + i, DatalogMill.NONE);
        }
        m.fact(1, 0, 0, 0, 5, DatalogMill.NONE);
        m.rule(DatalogMill.FOLLOWS, 1, 101, 103, 0);
        m.atom(1, false, 100, 102, 0);
        m.atom(0, false, 100, 101, 0);
        m.reckon(103, DatalogMill.PLUS, 102, 3);
        m.add();
        m.rule(DatalogMill.COUNTS, 2, 100, 0, 0);
        m.atom(0, false, 100, 101, 0);
        m.atom(0, false, 101, 102, 0);
        m.atom(1, false, 102, 103, 0);
        m.add();
        m.rule(DatalogMill.FOLLOWS, 3, 100, 0, 0);
        m.atom(0, false, 100, 101, 0);
        m.atom(2, true, 101, 9, 0);
        m.add();
        m.rule(DatalogMill.NEVER, DatalogMill.NONE, 0, 0, 0);
        m.atom(3, false, 100, 0, 0);
        m.atom(1, false, 100, DatalogMill.ANY, 0);
        m.add();
        for (int i = 0; i < 46; i++) {
            int row = m.rowAt(1, i % m.count(1));
            answers += m.takeBack(0, 0, 0, 0);
            answers += m.fact(0, 0, 0, 0, 1, DatalogMill.NONE);
            answers += m.repair();
            answers += m.needs(1, row / 10000, row / 100 % 100, 0);
            answers += m.height(1, row / 10000, row / 100 % 100, 0);
            answers += m.goals(3, DatalogMill.ANY, 0, 0);
            answers += m.holdsAnew(1, 1, 1, 0) ? 1 : 0;
            answers += m.ways(2, 1, 9, 0);
        }
    }
}
