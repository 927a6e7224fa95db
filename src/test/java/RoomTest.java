import java.lang.management.ManagementFactory;

/** Calls make nothing: all calls of a run live in one room. */
final class RoomTest {
    private static final Due DUE = new Due();

    public static void main(String[] args) {
        com.sun.management.ThreadMXBean threads =
            (com.sun.management.ThreadMXBean) ManagementFactory.getThreadMXBean();
        long thread = Thread.currentThread().getId();
        run(new ToadBank());
        ToadBank x = new ToadBank();
        long before = threads.getThreadAllocatedBytes(thread);
        run(x);
        long made = threads.getThreadAllocatedBytes(thread) - before;
        // The measuring itself may make a little; 512 calls that made one object each would make more.
        DUE.is("made little, not " + made, made < 8000, true);
        DUE.end();
    }

    /** More than 512 calls, each of them many times. */
    private static void run(ToadBank x) {
        for (int b = 0; b < 8; b++) {
            x.bank(b, 100 + b);
        }
        for (int b = 0; b < 8; b++) {
            x.owe(b, (b + 1) & 7, 20 * b + 1);
            x.owe(b, (b + 3) & 7, 9);
            x.hold(b, (b + 1) & 7, 60);
        }
        for (int i = 0; i < 30; i++) {
            texts(x);
            questions(x, i);
        }
    }

    private static void texts(ToadBank x) {
        x.feed(0x66332862, 0x3d30293b, 0x77312862, 0x3d30293b, 0x69312862);
        x.feed(0x3d30293b, 0x78286d3d, 0x31322920, 0, 0);
        x.law(31);
        x.feed(0x612b313b, 0x613e623a, 0x32000000, 0, 0);
        x.ledger(9);
        x.feed(0x2e000000, 0, 0, 0, 0);
        x.code(0, 1);
        x.feed(0x2e2e0000, 0, 0, 0, 0);
        x.code(1, 2);
        x.feed(0x2e2e2e2e, 0x2e2e2e2e, 0x2e2e2e2e, 0x2e2e2e2e, 0x2e2e2e2e);
        x.blinks(20, 5);
        x.feed(0x01020304, 0x05060708, 0x090a0b0c, 0, 0);
        x.taken(12, 40, 1);
        x.feed(0x01020304, 0x05060708, 0, 0, 0);
        x.shortest(8);
        x.feed(0x01020304, 0x05060708, 0, 0, 0);
        x.inOrder(8);
        x.feed(0, 0, 0, 0, 0);
        x.feed(0, 0, 0, 0, 0);
        x.tampered(0);
        x.check(0);
    }

    private static void questions(ToadBank x, int i) {
        x.tried(60, 2);
        x.keep();
        x.months(3);
        x.cleared(0);
        x.falls(i & 7);
        x.keystone(0);
        x.blow(i & 7, 50);
        x.leastBlow(i & 7, (i + 1) & 7);
        x.help(i & 7);
        x.setOff();
        x.settled(0);
        x.ring(i & 7, 1);
        x.road(i & 7, (i + 1) & 7, 0);
        x.mergers(255, 0);
        x.bankIs(i & 7, 5);
        x.loan(5000, 2, 120);
        x.payment(5000, 2, 60);
        x.atOnce();
        x.merge(0, 1);
        x.undo();
        x.count(8);
    }
}
