/** Promises 1 to 4, 10 to 12 and 24: banks, debts, shares, mergers that are done. */
final class BanksTest {
    private static final Due DUE = new Due();

    public static void main(String[] args) {
        newObject();
        bank();
        owe();
        hold();
        bankIs();
        control();
        owes();
        holds();
        merge();
        mergeAtTheBounds();
        DUE.end();
    }

    /** Promise 1. */
    private static void newObject() {
        ToadBank x = new ToadBank();
        DUE.is("NONE", ToadBank.NONE, -1);
        for (int what = 0; what <= 8; what++) {
            DUE.is("new count " + what, x.count(what), what == 7 ? 1 : 0);
        }
        for (int sign = 0; sign < 8; sign++) {
            DUE.is("new code " + sign, x.count(10 + sign), -1);
            DUE.is("new bank " + sign, x.bankIs(sign, 0), -1);
        }
        DUE.is("new undo", x.undo(), false);
        DUE.is("new atOnce", x.atOnce(), 1);
        DUE.is("two objects share nothing", x.bank(0, 1) && new ToadBank().count(2) == 0, true);
    }

    /** Promise 2. */
    private static void bank() {
        ToadBank x = new ToadBank();
        DUE.is("bank -1", x.bank(-1, 0), false);
        DUE.is("bank 8", x.bank(8, 0), false);
        DUE.is("bank MIN", x.bank(Integer.MIN_VALUE, 0), false);
        DUE.is("bank 32", x.bank(32, 0), false);
        DUE.is("cash -1", x.bank(0, -1), false);
        DUE.is("cash 10000", x.bank(0, 10000), false);
        DUE.is("none told yet", x.count(2), 0);
        DUE.is("bank 0", x.bank(0, 0), true);
        DUE.is("bank 7", x.bank(7, 9999), true);
        DUE.is("told", x.count(2), 129);
        DUE.is("cash of 7", x.bankIs(7, 0), 9999);
        x.owe(0, 7, 12);
        x.hold(0, 7, 30);
        DUE.is("again", x.bank(0, 44), true);
        DUE.is("cash in place", x.bankIs(0, 0), 44);
        DUE.is("debt stays", x.owes(0, 7), 12);
        DUE.is("share stays", x.holds(0, 7), 30);
        DUE.is("refused one changes nothing", x.bank(0, 10000), false);
        DUE.is("cash as before", x.bankIs(0, 0), 44);
        DUE.is("all shut", Due.law(x, "x(b=0)"), 1);
        DUE.is("month", x.months(1), 1);
        DUE.is("shut", x.bankIs(0, 1), 0);
        DUE.is("open again", x.bank(0, 5), true);
        DUE.is("is open", x.bankIs(0, 1), 1);
        DUE.is("debt is 0", x.owes(0, 7), 0);
        DUE.is("share is 0", x.holds(0, 7), 0);
        DUE.is("fallen stays", x.count(1), 1);
    }

    /** Promise 3. */
    private static void owe() {
        ToadBank x = Due.town(1, 1, -1, 1);
        DUE.is("owe", x.owe(0, 1, 999), true);
        DUE.is("owe 0", x.owe(1, 0, 0), true);
        DUE.is("owes", x.owes(0, 1), 999);
        DUE.is("not the other way", x.owes(1, 0), 0);
        DUE.is("1000", x.owe(0, 1, 1000), false);
        DUE.is("-1", x.owe(0, 1, -1), false);
        DUE.is("itself", x.owe(0, 0, 1), false);
        DUE.is("not told", x.owe(0, 2, 1), false);
        DUE.is("by one not told", x.owe(2, 0, 1), false);
        DUE.is("no such", x.owe(0, 8, 1), false);
        DUE.is("no such", x.owe(-1, 0, 1), false);
        DUE.is("as before", x.owes(0, 1), 999);
        DUE.is("in place", x.owe(0, 1, 3), true);
        DUE.is("owes less", x.owes(0, 1), 3);
        DUE.is("all", x.count(8), 3);
        Due.law(x, "x(b=3)");
        x.months(1);
        DUE.is("to a shut one", x.owe(0, 3, 1), false);
        DUE.is("by a shut one", x.owe(3, 0, 1), false);
    }

    /** Promise 4. */
    private static void hold() {
        ToadBank x = Due.town(1, 1, 1, 1, -1);
        DUE.is("hold 60", x.hold(0, 1, 60), true);
        DUE.is("hold 40", x.hold(2, 1, 40), true);
        DUE.is("hold 1 too many", x.hold(3, 1, 1), false);
        DUE.is("hold 0", x.hold(3, 1, 0), true);
        DUE.is("its own ones do not count", x.hold(0, 1, 59), true);
        DUE.is("one now fits", x.hold(3, 1, 1), true);
        DUE.is("of another one", x.hold(3, 2, 100), true);
        DUE.is("101", x.hold(3, 0, 101), false);
        DUE.is("-1", x.hold(3, 0, -1), false);
        DUE.is("itself", x.hold(3, 3, 1), false);
        DUE.is("not told", x.hold(3, 4, 1), false);
        DUE.is("by one not told", x.hold(4, 3, 1), false);
        DUE.is("no such", x.hold(8, 3, 1), false);
        DUE.is("holds", x.holds(0, 1), 59);
        DUE.is("holds", x.holds(3, 1), 1);
        DUE.is("holds", x.holds(3, 0), 0);
        Due.law(x, "x(b=3)");
        x.months(1);
        DUE.is("of a shut one", x.hold(0, 3, 1), false);
        DUE.is("room again", x.hold(0, 1, 60), true);
    }

    /** Promise 10. */
    private static void bankIs() {
        ToadBank x = Due.town(10, 5, 0, -1);
        x.owe(0, 1, 20);
        x.owe(0, 2, 7);
        x.owe(1, 2, 30);
        x.owe(2, 0, 15);
        DUE.is("cash", x.bankIs(0, 0), 10);
        DUE.is("open", x.bankIs(0, 1), 1);
        DUE.is("owes", x.bankIs(0, 2), 27);
        DUE.is("is owed", x.bankIs(0, 3), 15);
        DUE.is("worth", x.bankIs(0, 4), -2);
        DUE.is("worth", x.bankIs(2, 4), 22);
        DUE.is("controls", x.bankIs(0, 5), 0);
        DUE.is("no such what", x.bankIs(0, 6), -1);
        DUE.is("no such what", x.bankIs(0, -1), -1);
        for (int b : new int[] {3, 8, -1, Integer.MIN_VALUE, Integer.MAX_VALUE}) {
            for (int what = -1; what <= 6; what++) {
                DUE.is("bankIs " + b + " " + what, x.bankIs(b, what), what == 4 ? -1000000 : -1);
            }
        }
        Due.law(x, "x(b=2)");
        x.months(1);
        int[] shut = {0, 0, 0, 0, 0, 0};
        for (int what = 0; what <= 5; what++) {
            DUE.is("shut " + what, x.bankIs(2, what), shut[what]);
        }
        DUE.is("owes less", x.bankIs(0, 2), 20);
        DUE.is("is owed less", x.bankIs(0, 3), 0);
    }

    /** Promise 10, what 5. */
    private static void control() {
        ToadBank x = Due.town(0, 0, 0, 0, 0);
        x.hold(0, 1, 50);
        DUE.is("just half", x.bankIs(0, 5), 0);
        x.hold(0, 1, 51);
        DUE.is("more than half", x.bankIs(0, 5), 2);
        x.hold(0, 2, 30);
        x.hold(1, 2, 20);
        DUE.is("together just half", x.bankIs(0, 5), 2);
        x.hold(1, 2, 21);
        DUE.is("together more", x.bankIs(0, 5), 6);
        x.hold(2, 3, 51);
        DUE.is("by steps", x.bankIs(0, 5), 14);
        x.hold(3, 0, 100);
        DUE.is("itself is none", x.bankIs(0, 5), 14);
        DUE.is("3 by 0", x.bankIs(3, 5), 7);
        DUE.is("4 has none", x.bankIs(4, 5), 0);
        // Who comes later may be needed for one that comes first.
        ToadBank y = Due.town(0, 0, 0, 0);
        y.hold(3, 2, 60);
        y.hold(2, 1, 60);
        y.hold(1, 0, 60);
        DUE.is("downwards", y.bankIs(3, 5), 7);
    }

    /** Promise 11. */
    private static void owes() {
        ToadBank x = Due.town(0, 0, 0, -1);
        x.owe(0, 1, 8);
        DUE.is("owes", x.owes(0, 1), 8);
        DUE.is("owes nothing", x.owes(1, 0), 0);
        DUE.is("itself", x.owes(1, 1), -1);
        DUE.is("not told", x.owes(1, 3), -1);
        DUE.is("not told", x.owes(3, 1), -1);
        DUE.is("no such", x.owes(8, 1), -1);
        DUE.is("no such", x.owes(1, -1), -1);
        Due.law(x, "x(b=1)");
        x.months(1);
        DUE.is("shut", x.owes(0, 1), 0);
    }

    /** Promise 12. */
    private static void holds() {
        ToadBank x = Due.town(0, 0, 0, -1);
        x.hold(0, 1, 8);
        DUE.is("holds", x.holds(0, 1), 8);
        DUE.is("holds nothing", x.holds(1, 0), 0);
        DUE.is("itself", x.holds(1, 1), -1);
        DUE.is("not told", x.holds(1, 3), -1);
        DUE.is("not told", x.holds(3, 1), -1);
        DUE.is("no such", x.holds(8, 1), -1);
        DUE.is("no such", x.holds(1, -1), -1);
        Due.law(x, "x(b=0)");
        x.months(1);
        DUE.is("shut", x.holds(0, 1), 0);
    }

    /** Promise 24. */
    private static void merge() {
        ToadBank x = Due.town(10, 5, 3, 4, -1);
        x.owe(0, 1, 9);
        x.owe(1, 0, 8);
        x.owe(0, 2, 7);
        x.owe(1, 2, 6);
        x.owe(2, 0, 5);
        x.owe(2, 1, 4);
        x.owe(3, 1, 3);
        x.hold(0, 1, 10);
        x.hold(1, 0, 20);
        x.hold(0, 2, 30);
        x.hold(1, 2, 40);
        x.hold(3, 0, 50);
        x.hold(3, 1, 60);
        DUE.is("itself", x.merge(0, 0), false);
        DUE.is("not told", x.merge(0, 4), false);
        DUE.is("not told", x.merge(4, 0), false);
        DUE.is("no such", x.merge(0, 8), false);
        DUE.is("no such", x.merge(-1, 0), false);
        DUE.is("merge", x.merge(0, 1), true);
        DUE.is("cash", x.bankIs(0, 0), 15);
        DUE.is("owes 2", x.owes(0, 2), 13);
        DUE.is("2 owes", x.owes(2, 0), 9);
        DUE.is("3 owes", x.owes(3, 0), 3);
        DUE.is("between them", x.owes(0, 1), 0);
        DUE.is("between them", x.owes(1, 0), 0);
        DUE.is("has of 2", x.holds(0, 2), 70);
        DUE.is("3 has of the first", x.holds(3, 0), 50);
        DUE.is("of the second gone", x.holds(3, 1), 0);
        DUE.is("between them gone", x.holds(0, 1), 0);
        DUE.is("between them gone", x.holds(1, 0), 0);
        DUE.is("second shut", x.bankIs(1, 1), 0);
        DUE.is("second's cash", x.bankIs(1, 0), 0);
        DUE.is("told still", x.count(2), 15);
        DUE.is("open", x.count(3), 13);
        DUE.is("not fallen", x.count(1), 0);
        DUE.is("a shut one", x.merge(0, 1), false);
        DUE.is("a shut one", x.merge(1, 0), false);
        DUE.is("all debts", x.count(8), 13 + 9 + 3);
    }

    /** Promise 24. */
    private static void mergeAtTheBounds() {
        ToadBank last = Due.town(1, -1, -1, -1, -1, 1, -1, 1);
        last.owe(7, 0, 3);
        last.owe(5, 0, 4);
        last.owe(0, 5, 5);
        last.hold(5, 0, 6);
        DUE.is("merge", last.merge(7, 5), true);
        DUE.is("owes 0", last.owes(7, 0), 7);
        DUE.is("0 owes", last.owes(0, 7), 5);
        DUE.is("has of 0", last.holds(7, 0), 6);
        ToadBank x = Due.town(9000, 999, 1000, 0);
        x.owe(0, 3, 500);
        x.owe(1, 3, 499);
        x.owe(2, 3, 1);
        x.owe(3, 0, 500);
        x.owe(3, 1, 500);
        DUE.is("merge", x.merge(0, 1), true);
        DUE.is("cash just in", x.bankIs(0, 0), 9999);
        DUE.is("debt just in", x.owes(0, 3), 999);
        DUE.is("debt beyond", x.owes(3, 0), 999);
        DUE.is("merge", x.merge(0, 2), true);
        DUE.is("cash beyond", x.bankIs(0, 0), 9999);
        DUE.is("debt beyond", x.owes(0, 3), 999);
    }
}
