/** Promises 13 to 18: who can pay whom, who falls, blows and help. */
final class ClearingTest {
    private static final Due DUE = new Due();

    public static void main(String[] args) {
        cleared();
        roundedDown();
        slowly();
        falls();
        keystone();
        blow();
        leastBlow();
        help();
        DUE.end();
    }

    /** 0 owes 1 and 2, 1 owes 2, 2 owes 3; 3 owes nothing. */
    private static ToadBank chain() {
        ToadBank x = Due.town(10, 5, 0, 2, -1);
        x.owe(0, 1, 20);
        x.owe(0, 2, 10);
        x.owe(1, 2, 12);
        x.owe(2, 3, 14);
        return x;
    }

    /** Promise 13. */
    private static void cleared() {
        ToadBank x = chain();
        // Round 1: 0 pays 10 of 30. Round 2: 1 has 5 + 6, 2 has 3 + 12. Round 3: 2 has 3 + 11.
        DUE.is("who", x.cleared(0), 3);
        DUE.is("rounds", x.cleared(1), 2);
        int[] pays = {10, 11, 14, 0};
        int[] gets = {0, 6, 14, 14};
        for (int b = 0; b < 4; b++) {
            DUE.is("pays " + b, x.cleared(10 + b), pays[b]);
            DUE.is("gets " + b, x.cleared(20 + b), gets[b]);
        }
        for (int what : new int[] {-1, 2, 9, 14, 18, 19, 24, 28, Integer.MIN_VALUE, Integer.MAX_VALUE}) {
            DUE.is("cleared " + what, x.cleared(what), -1);
        }
        x.bank(0, 30);
        DUE.is("nobody", x.cleared(0), 0);
        DUE.is("no round", x.cleared(1), 0);
        DUE.is("all", x.cleared(10), 30);
        DUE.is("nothing is paid really", x.bankIs(0, 0) + x.count(8), 86);
        Due.law(x, "x(b=0)");
        x.months(1);
        DUE.is("shut pays", x.cleared(10), 0);
        DUE.is("shut gets", x.cleared(20), 0);
        DUE.is("others fall", x.cleared(0), 6);
        ToadBank empty = new ToadBank();
        DUE.is("none", empty.cleared(0), 0);
        DUE.is("none", empty.cleared(1), 0);
        DUE.is("not told", empty.cleared(10), -1);
    }

    private static void roundedDown() {
        ToadBank x = Due.town(10, 0, 0, 0);
        x.owe(0, 1, 1);
        x.owe(0, 2, 5);
        x.owe(0, 3, 7);
        DUE.is("pays", x.cleared(10), 10);
        DUE.is("10 of 13, once", x.cleared(21), 0);
        DUE.is("10 of 13, 5 times", x.cleared(22), 3);
        DUE.is("10 of 13, 7 times", x.cleared(23), 5);
        // A ring that could pay all out of itself does so.
        ToadBank y = Due.town(0, 0, 0);
        y.owe(0, 1, 9);
        y.owe(1, 2, 9);
        y.owe(2, 0, 9);
        DUE.is("nobody", y.cleared(0), 0);
        DUE.is("pays", y.cleared(12), 9);
        // One who can't starts it; then it goes round till nothing is left but what is rounded.
        y.owe(0, 2, 1);
        DUE.is("who", y.cleared(0), 7);
        DUE.is("nothing is left", y.cleared(10) + y.cleared(11) + y.cleared(12), 0);
    }

    private static void slowly() {
        ToadBank x = Due.town(0, 0, 0);
        x.owe(0, 1, 999);
        x.owe(1, 0, 999);
        x.owe(1, 2, 1);
        DUE.is("who", x.cleared(0), 3);
        // 1 pays 999 of 1000, 0 gets 998, pays 998, 1 gets 998, and so on, one less in every second round.
        DUE.is("rounds", x.cleared(1), 1999);
        DUE.is("pays", x.cleared(10), 0);
        DUE.is("first", x.falls(1), 1);
        DUE.is("then", x.falls(0), 2);
    }

    /** Promise 14. */
    private static void falls() {
        ToadBank x = chain();
        DUE.is("0", x.falls(0), 1);
        DUE.is("1", x.falls(1), 2);
        DUE.is("2", x.falls(2), -2);
        DUE.is("3", x.falls(3), -2);
        DUE.is("not told", x.falls(4), -1);
        DUE.is("no such", x.falls(8), -1);
        DUE.is("no such", x.falls(-1), -1);
        x.owe(2, 3, 15);
        DUE.is("2", x.falls(2), 3);
        x.owe(2, 3, 17);
        DUE.is("2", x.falls(2), 2);
        x.owe(2, 3, 23);
        DUE.is("2", x.falls(2), 1);
        Due.law(x, "x(b=0)");
        x.months(1);
        DUE.is("shut", x.falls(0), -2);
    }

    /** Promise 15. */
    private static void keystone() {
        ToadBank x = new ToadBank();
        DUE.is("none is open", x.keystone(0), -2);
        DUE.is("none is open", x.keystone(1), 0);
        DUE.is("no such what", x.keystone(2), -1);
        DUE.is("no such what", x.keystone(-1), -1);
        x.bank(2, 5);
        DUE.is("it alone", x.keystone(0), 2);
        DUE.is("none falls", x.keystone(1), 0);
        x.bank(1, 5);
        DUE.is("the lowest", x.keystone(0), 1);
        x.bank(5, 10);
        x.bank(6, 0);
        x.bank(7, 0);
        x.owe(5, 6, 10);
        x.owe(6, 7, 10);
        x.owe(2, 7, 5);
        DUE.is("5 and 6", x.keystone(0), 5);
        DUE.is("two", x.keystone(1), 2);
        x.owe(1, 6, 5);
        x.owe(6, 7, 15);
        x.owe(7, 1, 1);
        DUE.is("like ones", x.keystone(0), 1);
        DUE.is("two", x.keystone(1), 2);
        x.owe(7, 1, 16);
        // Without 5's cash 7 falls as well; 1 gets enough of 7 to stand without its own.
        DUE.is("5, 6 and 7", x.keystone(0), 5);
        DUE.is("three", x.keystone(1), 3);
        ToadBank first = Due.town(4, 4, 9);
        DUE.is("none falls: the lowest", first.keystone(0), 0);
        first.owe(0, 2, 4);
        first.owe(1, 2, 4);
        DUE.is("like ones: the lowest", first.keystone(0), 0);
        DUE.is("one", first.keystone(1), 1);
        first.owe(1, 0, 4);
        first.bank(1, 8);
        DUE.is("1 falls, 0 does not", first.keystone(0), 1);
        first.owe(0, 2, 8);
        DUE.is("both", first.keystone(0), 1);
        DUE.is("two", first.keystone(1), 2);
        ToadBank shut = Due.town(0);
        Due.law(shut, "x(b=0)");
        shut.months(1);
        DUE.is("shut", shut.keystone(0), -2);
    }

    /** Promise 16. */
    private static void blow() {
        ToadBank x = chain();
        x.bank(0, 40);
        DUE.is("0", x.blow(0, 0), 0);
        DUE.is("10", x.blow(0, 10), 0);
        // 29 of 30: 1 gets 19, 2 gets 9.
        DUE.is("11", x.blow(0, 11), 1);
        // 23 of 30: 1 gets 15, 2 gets 7.
        DUE.is("17", x.blow(0, 17), 1);
        DUE.is("31", x.blow(0, 31), 3);
        DUE.is("40", x.blow(0, 40), 7);
        DUE.is("9999", x.blow(0, 9999), 7);
        DUE.is("another", x.blow(3, 9999), 0);
        DUE.is("10000", x.blow(0, 10000), -1);
        DUE.is("-1", x.blow(0, -1), -1);
        DUE.is("not told", x.blow(4, 1), -1);
        DUE.is("no such", x.blow(8, 1), -1);
        DUE.is("cash as before", x.bankIs(0, 0), 40);
        Due.law(x, "x(b=3)");
        x.months(1);
        DUE.is("shut", x.blow(3, 1), -1);
    }

    /** Promise 17. */
    private static void leastBlow() {
        ToadBank x = chain();
        DUE.is("falls already", x.leastBlow(3, 0), 0);
        DUE.is("falls already, itself", x.leastBlow(0, 0), 0);
        x.bank(0, 40);
        DUE.is("itself", x.leastBlow(0, 0), 11);
        // 1 needs 7 of 20: 11 of 30 are 7.3, 10 are 6.6.
        DUE.is("1 by 0", x.leastBlow(0, 1), 30);
        // 2 needs 2 besides the 12 of 1; by 7 of 30 it gets 2, but 1 pays 9.
        for (int by = 0; by <= 40; by++) {
            DUE.is("2 by " + by, (x.blow(0, by) & 4) != 0, by >= x.leastBlow(0, 2));
        }
        DUE.is("1 by 1", x.leastBlow(1, 1), -2);
        DUE.is("3 by 0", x.leastBlow(0, 3), -2);
        DUE.is("0 by 1", x.leastBlow(1, 0), -2);
        DUE.is("not told", x.leastBlow(0, 4), -1);
        DUE.is("not told", x.leastBlow(4, 0), -1);
        DUE.is("no such", x.leastBlow(0, 8), -1);
        DUE.is("no such", x.leastBlow(-1, 0), -1);
        ToadBank y = Due.town(9999, 0);
        y.owe(0, 1, 999);
        DUE.is("much", y.leastBlow(0, 0), 9001);
        y.bank(0, 999);
        DUE.is("1", y.leastBlow(0, 0), 1);
        ToadBank z = Due.town(7, 0, 0);
        z.owe(0, 1, 1);
        z.owe(1, 2, 1);
        DUE.is("up to all", z.leastBlow(0, 1), 7);
        Due.law(z, "x(b=2)");
        z.months(1);
        DUE.is("shut", z.leastBlow(0, 2), -1);
        DUE.is("shut", z.leastBlow(2, 0), -1);
    }

    /** Promise 18. */
    private static void help() {
        ToadBank x = chain();
        DUE.is("30 less 10", x.help(0), 20);
        DUE.is("help to 1 is none to 0", x.help(1), -2);
        x.bank(0, 30);
        DUE.is("nobody falls", x.help(0), 0);
        DUE.is("nobody falls", x.help(3), 0);
        DUE.is("not told", x.help(4), -1);
        DUE.is("no such", x.help(8), -1);
        DUE.is("no such", x.help(-1), -1);
        x.owe(3, 0, 20);
        DUE.is("3 has 2 and gets 14", x.help(3), 4);
        DUE.is("by none", x.help(2), -2);
        ToadBank y = Due.town(0, 0, 0, 0, 0, 0, 0, 0);
        for (int to = 1; to < 8; to++) {
            y.owe(0, to, 999);
        }
        DUE.is("the most", y.help(0), 6993);
        y.bank(0, 6992);
        DUE.is("1", y.help(0), 1);
        Due.law(y, "x(b=7)");
        y.months(1);
        DUE.is("shut", y.help(7), -1);
    }
}
