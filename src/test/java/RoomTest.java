import java.lang.management.ManagementFactory;

/** The one room of a run: the constructor makes all rows, and calls make nothing. */
public final class RoomTest {
    private static final int WARM_UP_RUNS = 200;
    private static final int CALLS = 512;
    private static final long MOST_BYTES_OF_ONE = 400_000;
    private static final long MOST_BYTES_OF_CALLS = 2_000;

    public static void main(String[] args) {
        com.sun.management.ThreadMXBean threads =
            (com.sun.management.ThreadMXBean) ManagementFactory.getThreadMXBean();
        long thread = Thread.currentThread().getId();
        for (int i = 0; i < WARM_UP_RUNS; i++) {
            use(new EncounterLedger());
        }
        long start = threads.getThreadAllocatedBytes(thread);
        EncounterLedger ledger = new EncounterLedger();
        long made = threads.getThreadAllocatedBytes(thread);
        use(ledger);
        long used = threads.getThreadAllocatedBytes(thread);
        Due.holds("a new object takes " + (made - start) + " bytes", made - start <= MOST_BYTES_OF_ONE);
        Due.holds("its calls take " + (used - made) + " bytes", used - made <= MOST_BYTES_OF_CALLS);
        Due.end("RoomTest");
    }

    private static void use(EncounterLedger x) {
        x.feed(5, 's', '5', ':', 'h', '1');
        x.feed(5, ',', 'k', '0', '1', '1');
        x.feed(4, '9', ',', 'm', '2', 0);
        x.power(0);
        for (int i = 0; i < 8; i++) {
            x.add(i % 2, 40 + i, 99, i - 4, 5);
        }
        x.image();
        for (int i = 0; i < CALLS / 16 - 1; i++) {
            x.begin(i);
            x.cast(0, 44, 0);
            x.move(50 + i % 10);
            x.way(99);
            x.area(2, 44, 1, 5, -1);
            x.endTurn();
            x.strike(i % 8);
            x.delay(i % 8);
            x.condition(3, 2);
            x.replayed(1, 0);
            x.account(4);
            x.back();
            x.endTurn();
            x.finish();
            x.rest(i % 2);
            x.undo();
        }
    }
}
