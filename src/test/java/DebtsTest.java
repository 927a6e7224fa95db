/** Promises 19 to 23, 25: debts set off, settled, in rings and roads, mergers, what was tampered with. */
final class DebtsTest {
    private static final Due DUE = new Due();

    public static void main(String[] args) {
        setOff();
        settled();
        ring();
        road();
        mergers();
        tampered();
        tamperedEdges();
        DUE.end();
    }

    /** Promise 19. */
    private static void setOff() {
        ToadBank x = Due.town(0, 0, 0);
        DUE.is("none", new ToadBank().setOff(), 0);
        DUE.is("none", x.setOff(), 0);
        x.owe(0, 1, 9);
        DUE.is("one side", x.setOff(), 0);
        x.owe(1, 0, 4);
        DUE.is("the smaller one twice", x.setOff(), 8);
        x.owe(1, 2, 3);
        x.owe(2, 1, 3);
        DUE.is("all twos", x.setOff(), 14);
        x.owe(2, 0, 5);
        DUE.is("no ring of three", x.setOff(), 14);
        DUE.is("nothing is changed", x.count(8), 24);
    }

    /** Promise 20. */
    private static void settled() {
        ToadBank x = Due.town(0, 0, 0, 0, 0, 0, 0, 0);
        DUE.is("none", new ToadBank().settled(0), 0);
        DUE.is("none", x.settled(1), 0);
        DUE.is("no such what", x.settled(2), -1);
        DUE.is("no such what", x.settled(-1), -1);
        x.owe(0, 1, 5);
        DUE.is("one", x.settled(0), 1);
        DUE.is("one group", x.settled(1), 1);
        x.owe(1, 2, 5);
        DUE.is("1 is aside", x.settled(0), 1);
        DUE.is("one group", x.settled(1), 1);
        x.owe(2, 0, 5);
        DUE.is("all are", x.settled(0), 0);
        DUE.is("no group", x.settled(1), 0);
        // 0: -7, 1: +4, 2: +3, 3: -4, 4: +4: two groups, not by 0 and 1.
        ToadBank y = Due.town(0, 0, 0, 0, 0);
        y.owe(0, 1, 4);
        y.owe(0, 2, 3);
        y.owe(3, 4, 4);
        DUE.is("payings", y.settled(0), 3);
        DUE.is("groups", y.settled(1), 2);
        // -7, +4, +4, +3, -4 by other debts: the same.
        y.owe(3, 4, 0);
        y.owe(3, 1, 4);
        y.owe(0, 1, 0);
        y.owe(0, 4, 4);
        DUE.is("payings", y.settled(0), 3);
        DUE.is("groups", y.settled(1), 2);
        // Eight in four twos.
        for (int b = 0; b < 4; b++) {
            x.owe(b, 7 - b, 100 * (b + 1));
        }
        DUE.is("payings", x.settled(0), 4);
        DUE.is("groups", x.settled(1), 4);
        x.owe(0, 1, 6);
        DUE.is("payings", x.settled(0), 5);
        DUE.is("groups", x.settled(1), 3);
        // Cash does not matter.
        x.bank(0, 9999);
        DUE.is("payings", x.settled(0), 5);
    }

    /** Promise 21. */
    private static void ring() {
        ToadBank x = Due.town(0, 0, 0, 0, 0, -1);
        DUE.is("none", x.ring(0, 0), -2);
        DUE.is("none", x.ring(0, 1), -2);
        DUE.is("not told", x.ring(5, 0), -1);
        DUE.is("no such", x.ring(8, 0), -1);
        DUE.is("no such", x.ring(-1, 1), -1);
        DUE.is("no such what", x.ring(0, 2), -1);
        DUE.is("no such what", x.ring(0, -1), -1);
        x.owe(0, 1, 9);
        x.owe(1, 2, 8);
        x.owe(2, 3, 7);
        x.owe(3, 0, 20);
        DUE.is("four", x.ring(0, 0), 4);
        DUE.is("least", x.ring(3, 1), 7);
        DUE.is("none through 4", x.ring(4, 0), -2);
        x.owe(4, 0, 30);
        DUE.is("to a ring is not in it", x.ring(4, 0), -2);
        x.owe(1, 3, 1);
        DUE.is("shorter, not wider", x.ring(0, 0), 3);
        DUE.is("1", x.ring(0, 1), 1);
        DUE.is("2 is not in that one", x.ring(2, 0), 4);
        x.owe(0, 4, 5);
        DUE.is("two", x.ring(0, 0), 2);
        DUE.is("5", x.ring(0, 1), 5);
        x.owe(0, 2, 2);
        x.owe(2, 0, 3);
        DUE.is("the wider one of two", x.ring(0, 1), 5);
        x.owe(0, 2, 6);
        x.owe(2, 0, 7);
        DUE.is("the wider one of two", x.ring(0, 1), 6);
        ToadBank y = Due.town(0, 0, 0, 0, 0, 0, 0, 0);
        for (int b = 0; b < 8; b++) {
            y.owe(b, (b + 3) % 8, 100 + b);
        }
        DUE.is("eight", y.ring(5, 0), 8);
        DUE.is("least", y.ring(5, 1), 100);
        Due.law(y, "x(b=4)");
        y.months(1);
        DUE.is("shut", y.ring(4, 0), -2);
        DUE.is("broken", y.ring(5, 0), -2);
    }

    /** Promise 22. */
    private static void road() {
        ToadBank x = Due.town(0, 0, 0, 0, 0, -1);
        x.owe(0, 1, 1);
        DUE.is("1 wide", x.road(0, 1, 0), 1);
        x.owe(0, 1, 5);
        DUE.is("wide", x.road(0, 1, 0), 5);
        DUE.is("one", x.road(0, 1, 1), 1);
        DUE.is("not back", x.road(1, 0, 0), -2);
        DUE.is("not back", x.road(1, 0, 1), -2);
        x.owe(0, 2, 9);
        x.owe(2, 1, 5);
        DUE.is("as wide", x.road(0, 1, 0), 5);
        DUE.is("the fewest", x.road(0, 1, 1), 1);
        x.owe(2, 1, 6);
        DUE.is("wider", x.road(0, 1, 0), 6);
        DUE.is("two", x.road(0, 1, 1), 2);
        x.owe(2, 3, 8);
        x.owe(3, 4, 7);
        x.owe(4, 1, 10);
        DUE.is("widest", x.road(0, 1, 0), 7);
        DUE.is("four", x.road(0, 1, 1), 4);
        x.owe(0, 3, 7);
        DUE.is("fewer", x.road(0, 1, 1), 3);
        DUE.is("itself", x.road(0, 0, 0), -1);
        DUE.is("not told", x.road(0, 5, 0), -1);
        DUE.is("not told", x.road(5, 0, 0), -1);
        DUE.is("no such", x.road(0, 8, 0), -1);
        DUE.is("no such", x.road(-1, 0, 0), -1);
        DUE.is("no such what", x.road(0, 1, 2), -1);
        DUE.is("no such what", x.road(0, 1, -1), -1);
        ToadBank y = Due.town(0, 0, 0, 0, 0, 0, 0, 0);
        for (int b = 0; b < 7; b++) {
            y.owe(b, b + 1, 999);
        }
        y.owe(0, 7, 998);
        DUE.is("999", y.road(0, 7, 0), 999);
        DUE.is("seven", y.road(0, 7, 1), 7);
        Due.law(y, "x(b=7)");
        y.months(1);
        DUE.is("to a shut one", y.road(0, 7, 0), -2);
    }

    /** Promise 23. */
    private static void mergers() {
        ToadBank x = Due.town(5, 0, 0, 0, 0, 0, 0, -1);
        DUE.is("none is bad", x.mergers(127, 0), 0);
        DUE.is("no twos", x.mergers(127, 1), 0);
        x.owe(1, 0, 7);
        // 0: 12, 1: -7.
        DUE.is("one two", x.mergers(3, 0), 0);
        DUE.is("one two", x.mergers(3, 1), 1);
        DUE.is("1 alone with 2", x.mergers(6, 0), 1);
        DUE.is("no two helps", x.mergers(6, 1), 0);
        x.owe(2, 3, 8);
        // 0: 12, 1: -7, 2: -8, 3: 8: 1 with 0, 2 with 3.
        DUE.is("two twos", x.mergers(15, 0), 0);
        DUE.is("two twos", x.mergers(15, 1), 2);
        // Two bad ones together are one: 1 with 2, 0 alone would be 1 bad; 1 with 0 leaves 2 bad.
        DUE.is("0, 1, 2", x.mergers(7, 0), 1);
        DUE.is("one two", x.mergers(7, 1), 1);
        x.owe(4, 5, 3);
        x.owe(6, 5, 3);
        // 4: -3, 5: 6, 6: -3; 4 and 6 are one bad one, with 5 alone; or 4 with 5, 6 bad.
        DUE.is("4, 5, 6", x.mergers(112, 0), 1);
        DUE.is("4, 5, 6", x.mergers(112, 1), 1);
        DUE.is("4, 6", x.mergers(80, 0), 1);
        DUE.is("4, 6", x.mergers(80, 1), 1);
        DUE.is("debts of those outside count", x.mergers(48, 0), 0);
        for (int banks : new int[] {0, 1, 64, 128, 129, 255, 256, 257, 259, -1, Integer.MIN_VALUE, Integer.MIN_VALUE + 3}) {
            DUE.is("mergers " + banks, x.mergers(banks, 0), -1);
        }
        DUE.is("no such what", x.mergers(3, 2), -1);
        DUE.is("no such what", x.mergers(3, -1), -1);
        x.bank(7, 0);
        DUE.is("eight", x.mergers(255, 0), 1);
        DUE.is("three twos", x.mergers(255, 1), 3);
        Due.law(x, "x(b=7)");
        x.months(1);
        DUE.is("shut", x.mergers(255, 0), -1);
        // Just 0 is not below 0.
        ToadBank y = Due.town(7, 0, 0);
        y.owe(1, 2, 7);
        DUE.is("0 and 1 come to 0", y.mergers(3, 0), 0);
        // Cash together may be above 9999.
        ToadBank z = Due.town(9999, 9999);
        DUE.is("no twos", z.mergers(3, 1), 0);
    }

    private static ToadBank owing() {
        ToadBank x = Due.town(0, 0, 0, -1, 0);
        x.owe(0, 1, 20);
        x.owe(1, 2, 300);
        x.owe(2, 0, 15);
        x.owe(4, 0, 999);
        return x;
    }

    /** Promise 25. */
    private static void tampered() {
        ToadBank x = owing();
        int[] sums = {20, 1014, 300, 20, 15, 300, 0, 0, 999, 0};
        DUE.is("right", Due.tampered(x, 0, sums), -2);
        DUE.is("right", Due.tampered(x, 1, sums), -2);
        DUE.is("empty then", x.count(6), 0);
        sums[0] = 25;
        sums[3] = 25;
        for (int what = 0; what <= 2; what++) {
            DUE.is("0 owes 1 more", Due.tampered(x, what, sums), new int[] {0, 1, 25}[what]);
        }
        DUE.is("nothing is changed", x.owes(0, 1), 20);
        sums[0] = 0;
        sums[3] = 0;
        DUE.is("less", Due.tampered(x, 2, sums), 0);
        sums[0] = 20;
        DUE.is("one side", Due.tampered(x, 0, sums), -3);
        sums[0] = 21;
        DUE.is("not alike", Due.tampered(x, 0, sums), -3);
        sums[3] = 21;
        sums[2] = 301;
        DUE.is("two owe", Due.tampered(x, 0, sums), -3);
        sums[0] = 20;
        DUE.is("1 to itself", Due.tampered(x, 0, sums), -3);
        sums[0] = 21;
        sums[2] = 300;
        sums[5] = 301;
        DUE.is("two are owed", Due.tampered(x, 0, sums), -3);
        sums[3] = 20;
        DUE.is("another debt", Due.tampered(x, 1, sums), 2);
        DUE.is("should be", Due.tampered(x, 2, sums), 1);
    }

    private static void tamperedEdges() {
        ToadBank x = owing();
        DUE.is("most of a debt", Due.tampered(x, 2, 999, 1014, 300, 999, 15, 300, 0, 0, 999, 0), 999);
        DUE.is("too much", Due.tampered(x, 2, 1000, 1014, 300, 1000, 15, 300, 0, 0, 999, 0), -3);
        DUE.is("too much", Due.tampered(x, 2, 20, 1015, 300, 20, 15, 300, 0, 0, 1000, 0), -3);
        DUE.is("below 0", Due.tampered(x, 2, 19, 1014, 300, 20, 15, 299, 0, 0, 999, 0), -3);
        DUE.is("one not told owes", Due.tampered(x, 0, 20, 1015, 300, 20, 15, 300, 1, 0, 999, 0), -3);
        DUE.is("one not told is owed", Due.tampered(x, 0, 21, 1014, 300, 20, 15, 300, 0, 1, 999, 0), -3);
        DUE.is("the last one is owed", Due.tampered(x, 0, 21, 1014, 300, 20, 15, 300, 0, 0, 999, 0,
            0, 0, 0, 0, 0, 1), -3);
        DUE.is("the last one owes", Due.tampered(x, 0, 20, 1014, 300, 20, 15, 300, 0, 0, 999, 0,
            0, 0, 0, 0, 1, 0), -3);
        x.feed(0, 0, 0, 0, 0);
        DUE.is("not so many", x.tampered(0), -1);
        DUE.is("tape stays", x.count(6), 20);
        x.feed(0, 0, 0, 0, 0);
        DUE.is("no such what", x.tampered(3), -1);
        DUE.is("no such what", x.tampered(-1), -1);
        DUE.is("tape stays", x.count(6), 40);
        DUE.is("all 0", x.tampered(0), -3);
        DUE.is("empty then", x.count(6), 0);
        ToadBank none = new ToadBank();
        DUE.is("none told", Due.tampered(none, 0, new int[16]), -2);
        ToadBank y = Due.town(0, 0, 0, 0, 0, 0, 0, 0);
        DUE.is("7 to 6", Due.tampered(y, 0, 0, 0, 0, 0, 0, 0, 0, 0, 0, 0, 0, 0, 0, 258, 258, 0), 7);
        DUE.is("7 to 6", Due.tampered(y, 1, 0, 0, 0, 0, 0, 0, 0, 0, 0, 0, 0, 0, 0, 258, 258, 0), 6);
        DUE.is("7 to 6", Due.tampered(y, 2, 0, 0, 0, 0, 0, 0, 0, 0, 0, 0, 0, 0, 0, 258, 258, 0), 258);
        Due.law(y, "x(b=7)");
        y.months(1);
        DUE.is("shut", Due.tampered(y, 2, 0, 0, 0, 0, 0, 0, 0, 0, 0, 0, 0, 0, 0, 258, 258, 0), -3);
    }
}
