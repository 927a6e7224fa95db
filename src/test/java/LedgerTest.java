/** Promises 5 and 7: the tape and ledgers. */
final class LedgerTest {
    private static final Due DUE = new Due();

    public static void main(String[] args) {
        feed();
        lines();
        faultOne();
        faultsOfNumbersAndLines();
        faultsOfBanks();
        faultNine();
        refused();
        DUE.end();
    }

    /** Promise 5. */
    private static void feed() {
        ToadBank x = Due.town(11, 22, 33, 44, 55, 66, 77, 88);
        for (int times = 1; times <= 13; times++) {
            DUE.is("feed " + times, x.feed(0x0b16212c, 0x37424d58, -1, 0, 5), 20 * times);
        }
        DUE.is("no room", x.feed(1, 1, 1, 1, 1), -1);
        DUE.is("as many", x.count(6), 260);
        DUE.is("highest first", x.check(8), -1);
        DUE.is("empty then", x.count(6), 0);
        ToadBank y = Due.town(255, 128, 0, 1);
        DUE.is("feed", y.feed(0xff800001, 0, 0, 0, 0), 20);
        DUE.is("bytes above 127", y.check(4), -1);
        // Two feeds stand one behind the other: the second one's bytes at 20.
        ToadBank z = Due.town(100, 100);
        Due.feedBytes(z, Due.bytesOf("a+100;a+100;a+100;a+100;b+7"));
        DUE.is("as many", z.count(6), 40);
        DUE.is("ledger over two feeds", z.ledger(27), 5);
        DUE.is("a", z.bankIs(0, 0), 500);
        DUE.is("b", z.bankIs(1, 0), 107);
    }

    private static void is(ToadBank x, String text, int want) {
        DUE.is("ledger " + text, Due.ledger(x, text), want);
        DUE.is("tape behind " + text, x.count(6), 0);
    }

    /** Promise 7. */
    private static void lines() {
        ToadBank x = Due.town(10, 20, 30, -1, -1, -1, -1, 0);
        is(x, "a+5", 1);
        is(x, "b-20", 1);
        is(x, "c>a:30", 1);
        is(x, "a!b:7", 1);
        is(x, "a!b:3;h!a:999", 2);
        is(x, "a>h:001;h+0;h-000", 3);
        DUE.is("a", x.bankIs(0, 0), 44);
        DUE.is("b", x.bankIs(1, 0), 0);
        DUE.is("c", x.bankIs(2, 0), 0);
        DUE.is("h", x.bankIs(7, 0), 1);
        DUE.is("a owes b", x.owes(0, 1), 10);
        DUE.is("h owes a", x.owes(7, 0), 999);
        is(x, "b+1;b>c:1;c>a:1", 3);
        DUE.is("lines ahead count", x.bankIs(0, 0), 45);
    }

    private static void faultOne() {
        ToadBank x = Due.town(10, 20);
        is(x, ";", -1000);
        is(x, "i+1", -1000);
        is(x, "A+1", -1000);
        is(x, "`+1", -1000);
        is(x, " a+1", -1000);
        is(x, "a", -1001);
        is(x, "a=1", -1001);
        is(x, "a:1", -1001);
        is(x, "a +1", -1001);
        is(x, "a+", -1002);
        is(x, "a+;", -1002);
        is(x, "a+b:1", -1002);
        is(x, "a+-1", -1002);
        is(x, "a>", -1002);
        is(x, "a>i:1", -1002);
        is(x, "a>1", -1002);
        is(x, "a>b", -1003);
        is(x, "a>b;", -1003);
        is(x, "a>b1", -1003);
        is(x, "a>b:", -1004);
        is(x, "a!b:x", -1004);
        is(x, "a+1a", -1003);
        is(x, "a+1 ", -1003);
        is(x, "a+1;", -1004);
        is(x, "a+1;;", -1004);
        is(x, "a+1:b", -1003);
        is(x, "a+1;b+1;" + (char) 0, -1008);
        is(x, "" + (char) 225 + "+1", -1000);
        DUE.is("nothing done", x.bankIs(0, 0) * 100 + x.bankIs(1, 0), 1020);
    }

    private static String many(int n, String line) {
        StringBuilder text = new StringBuilder(line);
        for (int i = 1; i < n; i++) {
            text.append(';').append(line);
        }
        return text.toString();
    }

    private static void faultsOfNumbersAndLines() {
        ToadBank x = Due.town(10, 20);
        is(x, "a+999", 1);
        is(x, "a+0001", -2005);
        is(x, "a>b:0001", -2007);
        is(x, "a!b:12345", -2007);
        // The fourth digit stands ahead of what the first three would do.
        is(x, "b-9990", -2005);
        is(x, many(20, "a+1"), 20);
        DUE.is("twenty lines", x.bankIs(0, 0), 1029);
        is(x, many(20, "a+1") + ";", -1080);
        is(x, many(21, "a+1"), -4080);
        is(x, many(20, "a+1") + ";h", -4080);
        is(x, many(20, "a+1") + ";i", -1080);
        is(x, many(20, "a+1") + "a", -1079);
        DUE.is("as before", x.bankIs(0, 0), 1029);
    }

    private static void faultsOfBanks() {
        ToadBank x = Due.town(10, 20, -1, 5);
        is(x, "c+1", -7000);
        is(x, "c", -7000);
        is(x, "a+1;c-1", -7004);
        is(x, "a>c:1", -7002);
        is(x, "a!c:1", -7002);
        is(x, "a>a:1", -6002);
        is(x, "b!b:1", -6002);
        is(x, "a>a", -6002);
        is(x, "c>c:1", -7000);
        Due.law(x, "x(b=3)");
        x.months(1);
        is(x, "d+1", -7000);
        is(x, "a>d:1", -7002);
        DUE.is("nothing done", x.bankIs(0, 0), 10);
    }

    private static void faultNine() {
        ToadBank x = Due.town(10, 9990, 0);
        is(x, "a-10", 1);
        is(x, "a-1", -9000);
        is(x, "b+9", 1);
        is(x, "b+1", -9000);
        is(x, "c+1;c>b:1", -9004);
        is(x, "a>c:1", -9000);
        is(x, "c+5;c-6;c+1", -9004);
        is(x, "c-6;c+6", -9000);
        is(x, "c!a:999", 1);
        is(x, "c!a:1", -9000);
        is(x, "a!c:500;a!c:499;a!c:1", -9016);
        is(x, "a-1x", -9000);
        is(x, "a-1;;", -9000);
        is(x, "a>c:1x", -9000);
        DUE.is("as before", x.bankIs(0, 0), 0);
        DUE.is("as before", x.bankIs(1, 0), 9999);
        DUE.is("as before", x.bankIs(2, 0), 0);
        DUE.is("as before", x.owes(0, 2), 0);
        // The place is less than 1000 always, so that a fault and its place can be told apart.
        is(x, many(15, "c+1") + ";a-1", -9060);
    }

    private static void refused() {
        ToadBank x = Due.town(10);
        x.feed(0x612b3100, 0, 0, 0, 0);
        DUE.is("n 0", x.ledger(0), -1);
        DUE.is("n -1", x.ledger(-1), -1);
        DUE.is("not so many", x.ledger(21), -1);
        DUE.is("n MIN", x.ledger(Integer.MIN_VALUE), -1);
        DUE.is("tape stays", x.count(6), 20);
        DUE.is("the first three", x.ledger(3), 1);
        DUE.is("cash", x.bankIs(0, 0), 11);
        for (int i = 0; i < 7; i++) {
            x.feed(0x612b3030, 0x313b612b, 0x3030303b, 0x612b3030, 0x303b612b);
        }
        DUE.is("121", x.ledger(121), -1);
        DUE.is("tape stays", x.count(6), 140);
        DUE.is("120", x.ledger(120) < -1, true);
        DUE.is("empty then", x.count(6), 0);
    }
}
