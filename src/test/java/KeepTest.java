/** Promises 35 to 38: kept, undone, checked, counted. */
final class KeepTest {
    private static final Due DUE = new Due();

    public static void main(String[] args) {
        keepAndUndo();
        whatIsNotKept();
        check();
        count();
        fiveHundredAndTwelveCalls();
        twoTowns();
        DUE.end();
    }

    /** Promises 35 and 36. */
    private static void keepAndUndo() {
        ToadBank x = Due.town(10, 20, -1, 30);
        x.owe(0, 1, 5);
        x.hold(1, 0, 60);
        DUE.is("none was kept", x.undo(), false);
        x.months(3);
        int drawn = x.count(7);
        DUE.is("the month", x.keep(), 3);
        x.bank(2, 7);
        x.bank(0, 99);
        x.owe(0, 1, 6);
        x.owe(1, 0, 7);
        x.hold(1, 0, 50);
        x.hold(3, 0, 50);
        Due.law(x, "x(b=3)");
        x.months(2);
        x.merge(0, 1);
        DUE.is("undone", x.undo(), true);
        DUE.is("cash", x.bankIs(0, 0) + x.bankIs(1, 0) + x.bankIs(3, 0), 60);
        DUE.is("told", x.count(2), 11);
        DUE.is("open", x.count(3), 11);
        DUE.is("debts", x.owes(0, 1) * 10 + x.owes(1, 0), 50);
        DUE.is("shares", x.holds(1, 0) * 100 + x.holds(3, 0), 6000);
        DUE.is("month", x.count(0), 3);
        DUE.is("fallen", x.count(1), 0);
        DUE.is("x", x.count(7), drawn);
        DUE.is("one falls", x.months(1), 1);
        DUE.is("undone again", x.undo(), true);
        DUE.is("as kept", x.count(1) * 100 + x.count(0), 3);
        x.months(1);
        DUE.is("kept anew", x.keep(), 4);
        x.undo();
        DUE.is("as kept last", x.count(1) * 100 + x.count(0), 104);
        // What is changed behind an undo does not change what was kept.
        x.bank(0, 1);
        x.owe(0, 1, 1);
        x.undo();
        DUE.is("as kept", x.bankIs(0, 0) * 10 + x.owes(0, 1), 105);
        // What is changed behind a keep does not either.
        x.keep();
        x.bank(0, 2);
        x.undo();
        DUE.is("as kept", x.bankIs(0, 0), 10);
        ToadBank empty = new ToadBank();
        DUE.is("nothing is kept", empty.keep(), 0);
        empty.bank(0, 0);
        DUE.is("undone", empty.undo(), true);
        DUE.is("nothing", empty.count(2), 0);
    }

    private static void whatIsNotKept() {
        ToadBank last = Due.town(1, 1, 1, 1, 1, 1, 1, 1);
        last.owe(7, 6, 5);
        last.hold(7, 6, 60);
        last.keep();
        last.owe(7, 6, 4);
        last.hold(7, 6, 50);
        last.bank(7, 2);
        last.undo();
        DUE.is("the last one, too", last.owes(7, 6) * 1000 + last.holds(7, 6) * 10 + last.bankIs(7, 0), 5601);
        ToadBank x = Due.town(0);
        Due.law(x, "f1(b=0)");
        Due.code(x, 0, ".");
        x.keep();
        Due.law(x, "f2(b=0);f3(b=0)");
        Due.code(x, 1, "..");
        x.feed(1, 2, 3, 4, 5);
        x.undo();
        DUE.is("law stays", x.count(5), 2);
        DUE.is("codes stay", x.count(4), 3);
        DUE.is("tape stays", x.count(6), 20);
        // Trying and a ledger with a fault touch nothing that was kept.
        x.check(0);
        x.tried(5, 0);
        Due.ledger(x, "a+5;a-9");
        x.undo();
        DUE.is("cash", x.bankIs(0, 0), 0);
        Due.ledger(x, "a+5");
        DUE.is("a ledger is done", x.bankIs(0, 0), 5);
        x.undo();
        DUE.is("and undone", x.bankIs(0, 0), 0);
    }

    /** Promise 37. */
    private static void check() {
        ToadBank x = Due.town(10, 256, -1, 9999, 255, 0, -1, 7);
        DUE.is("right", Due.check(x, 10, 0, 0, 9999 % 256, 255, 0, 0, 7), -1);
        DUE.is("empty then", x.count(6), 0);
        DUE.is("some", Due.check(x, 10, 0), -1);
        DUE.is("0 is not", Due.check(x, 11, 0), 0);
        DUE.is("1 is not", Due.check(x, 10, 1), 1);
        DUE.is("2 is not told", Due.check(x, 10, 0, 1), 2);
        DUE.is("3 is not", Due.check(x, 10, 0, 0, 0), 3);
        DUE.is("the first", Due.check(x, 10, 1, 1, 1), 1);
        DUE.is("the last", Due.check(x, 10, 0, 0, 9999 % 256, 255, 0, 0, 8), 7);
        DUE.is("none is asked", x.check(0), -1);
        x.feed(0x0a000000, 0, 0, 0, 0);
        DUE.is("9", x.check(9), -2);
        DUE.is("-1", x.check(-1), -2);
        DUE.is("MIN", x.check(Integer.MIN_VALUE), -2);
        DUE.is("tape stays", x.count(6), 20);
        DUE.is("none is asked", x.check(0), -1);
        DUE.is("empty then", x.count(6), 0);
        DUE.is("not so many", x.check(1), -2);
        Due.law(x, "x(b=0)");
        x.months(1);
        DUE.is("shut is 0", Due.check(x, 0), -1);
    }

    /** Promise 38. */
    private static void count() {
        ToadBank x = Due.town(1, 1, 1);
        x.owe(0, 1, 5);
        x.owe(1, 2, 6);
        x.owe(2, 0, 999);
        Due.code(x, 0, "....");
        Due.code(x, 7, "-");
        Due.law(x, "w9(b=1);x(b=9);f0(b=0)");
        x.months(2);
        x.feed(0, 0, 0, 0, 0);
        int[] want = {2, 1, 7, 5, 129, 3, 20, x.count(7), 999, -1, 4, -1, -1, -1, -1, -1, -1, 1, -1};
        for (int what = 0; what < want.length; what++) {
            DUE.is("count " + what, x.count(what), want[what]);
        }
        DUE.is("count -1", x.count(-1), -1);
        DUE.is("count MIN", x.count(Integer.MIN_VALUE), -1);
        DUE.is("count MAX", x.count(Integer.MAX_VALUE), -1);
        long drawn = 1;
        for (int i = 0; i < 5; i++) {
            drawn = (drawn * 25173 + 13849) % 65536;
        }
        DUE.is("3 draws, then 2", x.count(7), drawn);
    }

    /** An object is used for 512 calls: the last one is answered as the first one is. */
    private static void fiveHundredAndTwelveCalls() {
        ToadBank x = new ToadBank();
        DUE.is("call 1", x.bank(0, 0), true);
        int calls = 1;
        for (int lines = 1; calls < 511; lines++) {
            DUE.is("a feed", x.feed(0x612b3100, 0, 0, 0, 0), 20);
            DUE.is("a ledger", x.ledger(3), 1);
            calls += 2;
            DUE.is("call " + calls, calls, 2 * lines + 1);
        }
        DUE.is("call 512", x.bankIs(0, 0), 255);
        // A month is dearest with all BANKS, all DEBTS and much to ask.
        ToadBank y = Due.town(9999, 9999, 9999, 9999, 9999, 9999, 9999, 9999);
        for (int b = 0; b < 8; b++) {
            for (int to = 0; to < 8; to++) {
                y.owe(b, to, 1);
            }
        }
        String rule = "i1(d<0|e<0|b<0|c<0|o<0|g<0|m<0);";
        Due.law(y, rule + rule + rule + rule + rule + rule + "f1(b=b);w1(b=b);i2(b=b)");
        for (int call = 0; call < 400; call++) {
            DUE.is("sixty months", y.tried(60, 3), 56 * 121);
        }
        DUE.is("nothing is changed", y.count(8), 56);
    }

    /** All memory is the town's own. */
    private static void twoTowns() {
        ToadBank x = Due.town(10, 20, 30);
        ToadBank y = new ToadBank();
        x.owe(0, 1, 5);
        x.hold(0, 1, 60);
        Due.law(x, "x(b=2)");
        Due.code(x, 3, "-.-");
        x.seed(77);
        x.keep();
        x.months(1);
        x.feed(1, 2, 3, 4, 5);
        for (int what = 0; what <= 17; what++) {
            DUE.is("the other one, count " + what, y.count(what), what == 7 ? 1 : what <= 8 ? 0 : -1);
        }
        DUE.is("nothing was kept there", y.undo(), false);
        y.bank(0, 1);
        y.bank(1, 1);
        DUE.is("no debt", y.owes(0, 1) + y.holds(0, 1), 0);
        DUE.is("no law", y.months(2), 0);
        DUE.is("nothing is read", Due.blinks(y, "-.-", 100), 0);
        y.keep();
        y.owe(0, 1, 9);
        Due.law(y, "f1(b=b);w1(b=b)");
        Due.code(y, 3, ".");
        y.check(0);
        int[] want = {1, 1, 7, 3, 8, 1, 20, x.count(7), 5, -1, -1, -1, -1, 3};
        for (int what = 0; what < want.length; what++) {
            DUE.is("the first one, count " + what, x.count(what), want[what]);
        }
        DUE.is("its cash", x.bankIs(0, 0) * 100 + x.bankIs(1, 0), 1020);
        DUE.is("its debt and share", x.owes(0, 1) * 100 + x.holds(0, 1), 560);
        DUE.is("undone", x.undo(), true);
        DUE.is("as it was kept there", x.count(0) * 1000 + x.count(3) * 100 + x.count(7), 777);
    }
}
