import java.lang.management.ManagementFactory;

/** All calls of a run live in one room: an object makes its rows once, and its calls make next to nothing. */
public final class RoomTest {
    private static final int CALLS = 512;
    private static final long ROOM_OF_AN_OBJECT = 100000;
    private static final long ROOM_OF_ITS_CALLS = 20000;

    private RoomTest() {
    }

    public static void main(String[] args) {
        use(new HillClock());
        long before = room();
        HillClock clock = new HillClock();
        long made = room();
        use(clock);
        long used = room();
        Due.is("an object takes " + (made - before) + " bytes: too many", made - before > ROOM_OF_AN_OBJECT, false);
        Due.is(CALLS + " calls take " + (used - made) + " bytes: too many", used - made > ROOM_OF_ITS_CALLS, false);
        Due.end();
    }

    private static long room() {
        com.sun.management.ThreadMXBean threads = (com.sun.management.ThreadMXBean) ManagementFactory.getThreadMXBean();
        return threads.getThreadAllocatedBytes(Thread.currentThread().getId());
    }

    private static final String TEXT = "place a;place b;path a b 5;walker x plain start 0 pace 1 halt 3 round a b a b;"
        + "walker y slow start 4 pace 1 halt 3 round b a b a;waits x at b for y 9;hour h by x at b is 9;"
        + "missed off*(2+none)-days;";

    private static void use(HillClock x) {
        for (int i = 0; i < TEXT.length(); i += 24) {
            x.feed(Due.pack(TEXT, i), Due.pack(TEXT, i + 8), Due.pack(TEXT, i + 16));
        }
        x.hills();
        x.feed(Due.pack("snow;day", 0), Due.pack(";day;day", 0), Due.pack(";", 0));
        x.days();
        for (int i = 0; i < CALLS / 28; i++) {
            change(x, i);
            ask(x, i);
        }
    }

    private static void change(HillClock x, int i) {
        x.late(0, i);
        x.deputy(0, i & 1);
        x.snow();
        x.day();
        if (i > 8) {
            x.dies(1);
        }
        x.undo();
        x.see(0, 0, true);
        x.tell(0, 20);
        x.mark(i & 3, i > 3);
    }

    private static void ask(HillClock x, int i) {
        x.way(0, 1);
        x.walker(0, 3);
        x.where(1, i);
        x.hour(0, 5);
        x.meet(0, 1, 0);
        x.judged(2);
        x.times(0);
        x.look();
        x.deputies(-1);
        x.sure(0, 1, 0);
        x.soonest(0, 0, 3);
        x.lonely(0);
        x.sets(5, 0);
        x.years(i, 20, 2);
        x.count(6);
        Due.rests(x, 0, 3, 5, i * 10);
    }
}
