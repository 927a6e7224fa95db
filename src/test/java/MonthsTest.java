/** Promises 8, 9 and 34, and how a law is asked: months, draws, the seed. */
final class MonthsTest {
    private static final Due DUE = new Due();

    public static void main(String[] args) {
        sums();
        cases();
        longCases();
        refusedByZero();
        letters();
        firstRule();
        bounds();
        cashFlow();
        runs();
        growth();
        shutByLaw();
        oneByOne();
        months();
        tried();
        fallenInAll();
        seed();
        DUE.end();
    }

    /** The fees that a law gives bank 2 with cash 7, which owes 5 to 1 and is owed 3 by 4, in month 0. */
    private static int fees(String law) {
        ToadBank x = Due.town(-1, 0, 7, -1, 0);
        x.owe(2, 1, 5);
        x.owe(4, 2, 3);
        DUE.is("law " + law, Due.law(x, law) > 0, true);
        x.months(1);
        return x.bankIs(2, 0) - 7;
    }

    private static void sum(String sum, int want) {
        DUE.is(sum, fees("f" + sum + "(b=2)"), want);
    }

    private static void holds(String when, boolean want) {
        DUE.is(when, fees("f1(" + when + ")"), want ? 1 : 0);
    }

    private static void sums() {
        sum("10", 10);
        sum("00010", 10);
        sum("10-3-2", 5);
        sum("2+3*4", 14);
        sum("[2+3]*4", 20);
        sum("100/7/2", 7);
        sum("100/7*2", 28);
        sum("100%7*2", 4);
        sum("10-[3-2]", 9);
        sum("[3-10]/2+10", 7);
        sum("[3-10]%4+10", 7);
        sum("10/[0-3]+10", 7);
        sum("b", 2);
        sum("c", 7);
        sum("o", 5);
        sum("g", 3);
        sum("c*o+g", 38);
        // 32 bits: 65536 * 65536 is 0, 46341 * 46341 is below 0.
        sum("65536*65536+3", 3);
        sum("46341*46341", 0);
        sum("0-46341*46341", 999);
        sum("[32768*65536]/[0-1]", 0);
        sum("[32768*65536]/[0-1]/[0-65536]/100", 327);
        sum("[32768*65536]%[0-1]+4", 4);
    }

    private static void cases() {
        holds("c=7", true);
        holds("c=8", false);
        holds("c<7", false);
        holds("c<8", true);
        holds("c>7", false);
        holds("c>6", true);
        holds("!c=7", false);
        holds("!!c=7", true);
        holds("!c=8&c=7", true);
        holds("!(c=8&c=7)", true);
        holds("!(c=8|c=7)", false);
        holds("c=8|c=7", true);
        holds("c=8|c=9", false);
        holds("c=8|c=9|c=7", true);
        holds("c=7&o=5", true);
        holds("c=7&o=6", false);
        holds("c=7&o=5&g=4", false);
        holds("c=7|o=6&g=4", true);
        holds("c=8&o=5|g=3", true);
        holds("c=8&(o=5|g=3)", false);
        holds("(c=7|o=6)&g=4", false);
        holds("c+1=o+g", true);
        holds("[c+1]*2=[o+g]*2", true);
        holds("0-1<0", true);
    }

    private static String many(int n, String part, String between) {
        StringBuilder text = new StringBuilder(part);
        for (int i = 1; i < n; i++) {
            text.append(between).append(part);
        }
        return text.toString();
    }

    /** As much as a text can hold, in breadth and in depth. */
    private static void longCases() {
        holds(many(57, "c=8", "|") + "|c=7", true);
        holds(many(57, "c=7", "&") + "&c=7", true);
        holds(many(57, "c=7", "&") + "&c=8", false);
        sum(many(110, "1", "+"), 110);
        sum(many(110, "1", "*"), 1);
        sum(many(110, "2", "*") + "+6", 6);
        holds("1+2*[1+2*[1+2*[1+2*[1+2*[1]]]]]=63", true);
        sum("1+2*[1+2*[1+2*[1+2*[1+2*[1+2*[1]]]]]]", 127);
        holds("!(c=8|!(!c=7&o=5))", false);
        holds("!(c=8|!(!c=8&o=5))", true);
    }

    private static void refusedByZero() {
        sum("1/0", 0);
        sum("5+1/0", 0);
        sum("5+[1/0]", 0);
        sum("5+[7+1%0]*0", 0);
        sum("5%0", 0);
        sum("5/d+3", 0);
        holds("1/0=0", false);
        holds("1%0=0", false);
        holds("!1/0=0", false);
        holds("!(1/0=0)", false);
        holds("1/0=0|c=7", false);
        holds("!(1/0=0&c=8)", false);
        holds("(!(c=8|1/0=0))|c=7", false);
        // Of a case as much is asked, from the left, as matters.
        holds("c=7|1/0=0", true);
        holds("c=8&1/0=0|c=7", true);
        holds("!(c=8&1/0=0)", true);
        holds("(c=7|1/0=0)&o=5", true);
        holds("c=7&1/0=0|c=7", false);
        holds("c=8|1/0=0|c=7", false);
        holds("c=7|c=8|1/0=0", true);
        holds("c=8&c=7&1/0=0|c=7", true);
        // What is refused in one rule is none of the next one's.
        DUE.is("next rule", fees("f1(1/0=0);f2(c=7)"), 2);
        // A rule whose sum is refused is the first one all the same.
        DUE.is("refused sum", fees("f1/0(c=7);f2(c=7)"), 0);
    }

    private static void letters() {
        sum("e", 0);
        sum("d", 0);
        sum("m", 0);
        ToadBank x = Due.town(0, 0, 0, 0);
        x.owe(3, 1, 10);
        x.owe(3, 2, 20);
        x.owe(0, 3, 30);
        DUE.is("law", Due.law(x, "f5(b=3);ib*16+e*4+d/10(b=3);ic+o+g(b=0);x(e+d>0)"), 4);
        DUE.is("none shut", x.months(1), 0);
        DUE.is("48+4+1", x.owes(3, 1), 63);
        DUE.is("48+8+2", x.owes(3, 2), 78);
        DUE.is("o of 0", x.owes(0, 3), 60);
        DUE.is("c of 3", x.bankIs(3, 0), 5);
        ToadBank y = Due.town(0);
        Due.law(y, "f100*m+1(b=0)");
        y.months(1);
        DUE.is("month 0", y.bankIs(0, 0), 1);
        y.months(1);
        DUE.is("month 1", y.bankIs(0, 0), 102);
        y.months(9);
        y.bank(0, 0);
        y.months(1);
        DUE.is("month 11", y.bankIs(0, 0), 999);
        y.bank(0, 0);
        y.months(1);
        DUE.is("month 12 is 0", y.bankIs(0, 0), 1);
        Due.law(y, "xm=1(b=0)");
        DUE.is("month 13", y.tried(1, 10), 102);
    }

    private static void firstRule() {
        DUE.is("first", fees("f3(c=7);f4(c=7)"), 3);
        DUE.is("second", fees("f3(c=8);f4(c=7)"), 4);
        DUE.is("none", fees("f3(c=8);f4(c=9)"), 0);
        DUE.is("others are none", fees("w0(c=7);i9(c=7);q9(c=7);f4(c=7)"), 4);
        DUE.is("no law", new ToadBank().months(1), 0);
    }

    private static void bounds() {
        sum("999", 999);
        sum("1000", 999);
        sum("99999", 999);
        sum("0-1", 0);
        ToadBank x = Due.town(9000, 9000);
        Due.law(x, "w1000(b=0);w0-5(b=1)");
        x.months(1);
        DUE.is("w above", x.bankIs(0, 0), 8001);
        DUE.is("w below", x.bankIs(1, 0), 9000);
        ToadBank y = Due.town(0, 0);
        y.owe(0, 1, 10);
        y.owe(1, 0, 10);
        Due.law(y, "i100(b=0);i0-1(b=1);q11(b=0);q0-1(b=1)");
        DUE.is("runs", y.tried(60, 1), 60);
        y.months(1);
        DUE.is("i above", y.owes(0, 1), 109);
        DUE.is("i below", y.owes(1, 0), 10);
    }

    private static void cashFlow() {
        ToadBank x = Due.town(9990, 5, 5, 5);
        Due.law(x, "f20(b=0);f3(b<3);w8(b=1);w9(b=2);w5(b=3)");
        DUE.is("one falls", x.months(1), 1);
        DUE.is("9999 at most", x.bankIs(0, 0), 9999);
        DUE.is("down to 0", x.bankIs(1, 0), 0);
        DUE.is("open at 0", x.bankIs(1, 1), 1);
        DUE.is("below 0", x.bankIs(2, 1), 0);
        DUE.is("no fees", x.bankIs(3, 0), 0);
        DUE.is("fallen", x.count(1), 1);
        // The fees come ahead of what is withdrawn, and what is above 9999 is lost.
        ToadBank y = Due.town(9999);
        Due.law(y, "f100(b=0);w50(b=0)");
        y.months(1);
        DUE.is("lost above", y.bankIs(0, 0), 9949);
        // All three are asked ahead of the fees.
        ToadBank z = Due.town(5);
        Due.law(z, "f5(b=0);wc(b=0);qc(c=10)");
        z.months(1);
        DUE.is("asked ahead", z.bankIs(0, 0), 5);
        DUE.is("no run", z.tried(1, 1), 0);
    }

    /** The draws from seed 1: 39022, 64279 (25173 * 39022 + 13849 modulo 65536) and so on. */
    private static int[] draws(int seed, int n) {
        int[] draws = new int[n];
        long x = seed;
        for (int i = 0; i < n; i++) {
            x = (25173 * x + 13849) % 65536;
            draws[i] = (int) (x % 10);
        }
        return draws;
    }

    private static void runs() {
        ToadBank x = Due.town(100);
        x.months(1);
        DUE.is("one draw", x.count(7), 39022);
        int[] draws = draws(39022, 50);
        for (int i = 0; i < 50; i++) {
            x.bank(0, 100);
            Due.law(x, "w10(b=0);q" + draws[i] + "(b=0)");
            DUE.is("not below", x.tried(1, 10), 90);
            DUE.is("no run", x.tried(1, 1), 0);
            Due.law(x, "w10(b=0);q" + (draws[i] + 1) + "(b=0)");
            DUE.is("below", x.tried(1, 10), 80);
            DUE.is("a run", x.tried(1, 1), 1);
            x.months(1);
            DUE.is("twice", x.bankIs(0, 0), 80);
        }
        // Each open one draws, also where nothing is withdrawn; those that are shut do not.
        ToadBank y = Due.town(0, -1, 0, 0);
        Due.law(y, "q10(b=b);x(b=0)");
        DUE.is("runs", y.tried(1, 1), 3);
        DUE.is("runs", y.tried(3, 1), 7);
        y.months(1);
        DUE.is("three draws", draws(1, 3)[2], y.count(7) % 10);
        // Twice what is withdrawn may be too much.
        ToadBank z = Due.town(19, 20);
        Due.law(z, "w10(b=b);q10(b=b)");
        DUE.is("one falls", z.months(1), 1);
        DUE.is("the first", z.count(3), 2);
        ToadBank v = Due.town(9999);
        Due.law(v, "w999(b=b);q10(b=b)");
        v.months(1);
        DUE.is("twice 999", v.bankIs(0, 0), 9999 - 1998);
    }

    private static void growth() {
        ToadBank x = Due.town(0, 0, 0);
        x.owe(0, 1, 990);
        x.owe(1, 0, 1);
        Due.law(x, "i10(b=0);i9(b=1&d=1)");
        x.months(1);
        DUE.is("999 at most", x.owes(0, 1), 999);
        DUE.is("grown", x.owes(1, 0), 10);
        DUE.is("0 stays 0", x.owes(0, 2), 0);
        // By who owes, then to whom, each asked as it is then.
        ToadBank y = Due.town(0, 0, 0);
        y.owe(0, 1, 1);
        y.owe(0, 2, 2);
        y.owe(1, 0, 4);
        y.owe(2, 0, 8);
        Due.law(y, "io+g(b=b)");
        y.months(1);
        DUE.is("0 to 1: 1 + 3 + 12", y.owes(0, 1), 16);
        DUE.is("0 to 2: 2 + 18 + 12", y.owes(0, 2), 32);
        DUE.is("1 to 0: 4 + 4 + 16", y.owes(1, 0), 24);
        DUE.is("2 to 0: 8 + 8 + 32", y.owes(2, 0), 48);
        // What is shut by what is withdrawn grows no more.
        ToadBank z = Due.town(0, 0);
        z.owe(0, 1, 1);
        z.owe(1, 0, 1);
        Due.law(z, "w1(b=0);i1(b=b)");
        z.months(1);
        DUE.is("none", z.count(8), 0);
    }

    private static void shutByLaw() {
        ToadBank x = Due.town(1, 2, 3);
        x.owe(0, 1, 5);
        x.owe(1, 2, 6);
        x.owe(2, 0, 7);
        x.hold(0, 1, 60);
        x.hold(1, 2, 60);
        x.hold(2, 0, 60);
        Due.law(x, "x(c=9);x(c=2)");
        DUE.is("one", x.months(1), 1);
        DUE.is("which", x.count(3), 5);
        DUE.is("told", x.count(2), 7);
        DUE.is("owed by 0", x.owes(0, 1), 0);
        DUE.is("owed by 1", x.owes(1, 2), 0);
        DUE.is("owed by 2", x.owes(2, 0), 7);
        DUE.is("of it", x.holds(0, 1), 0);
        DUE.is("that it has", x.holds(1, 2), 0);
        DUE.is("others'", x.holds(2, 0), 60);
        DUE.is("cash", x.bankIs(1, 0), 0);
        // Asked then: as 0 is shut, 1 is owed nothing more; x is asked behind the growth.
        ToadBank y = Due.town(1, 2);
        y.owe(0, 1, 5);
        Due.law(y, "i1(b=0);x(o=6);x(g=6)");
        DUE.is("one", y.months(1), 1);
        DUE.is("1 is open", y.count(3), 2);
        ToadBank z = Due.town(0, 0, 0);
        DUE.is("without a law", z.months(60), 0);
        Due.law(z, "x(1/0=0)");
        DUE.is("refused", z.months(1), 0);
        Due.law(z, "x(b=b)");
        DUE.is("all", z.months(60), 3);
        DUE.is("fallen", z.count(1), 3);
        DUE.is("none is left", z.months(1), 0);
    }

    /** Bank 0 falls in its turn, so bank 1 is asked with what is left. */
    private static void oneByOne() {
        ToadBank x = Due.town(0, 10, 10);
        x.owe(0, 1, 5);
        x.owe(0, 2, 5);
        Due.law(x, "w1(b=0);fg+1(b>0)");
        DUE.is("one", x.months(1), 1);
        DUE.is("1 is owed nothing then", x.bankIs(1, 0), 11);
        ToadBank y = Due.town(10, 10, 0);
        y.owe(2, 0, 5);
        Due.law(y, "w1(b=2);fg+1(b<2)");
        DUE.is("one", y.months(1), 1);
        DUE.is("0 was asked ahead", y.bankIs(0, 0), 16);
    }

    /** Promise 8. */
    private static void months() {
        ToadBank x = Due.town(5, 3);
        Due.law(x, "w1(b=b)");
        for (int n : new int[] {0, -1, 61, Integer.MIN_VALUE, Integer.MAX_VALUE}) {
            DUE.is("months " + n, x.months(n), -1);
        }
        DUE.is("none went by", x.count(0), 0);
        DUE.is("three", x.months(3), 0);
        DUE.is("month", x.count(0), 3);
        DUE.is("one falls", x.months(1), 1);
        DUE.is("the other one", x.months(60), 1);
        DUE.is("month", x.count(0), 64);
        DUE.is("fallen", x.count(1), 2);
        for (int i = 0; i < 165; i++) {
            x.months(60);
        }
        DUE.is("month", x.count(0), 9964);
        x.bank(0, 5);
        int before = x.count(7);
        x.months(34);
        DUE.is("month", x.count(0), 9998);
        x.bank(0, 3);
        DUE.is("as many as can", x.months(60), 0);
        DUE.is("month", x.count(0), 9999);
        DUE.is("one went by", x.bankIs(0, 0), 2);
        before = x.count(7);
        DUE.is("none goes by", x.months(60), 0);
        DUE.is("x as before", x.count(7), before);
        DUE.is("tried as well", x.tried(60, 2), 2);
        DUE.is("month", x.count(0), 9999);
    }

    /** Promise 9. */
    private static void tried() {
        ToadBank x = Due.town(5, 3, -1, 0);
        x.owe(0, 1, 4);
        x.owe(0, 3, 2);
        Due.law(x, "w1(b<2);i1(b=0)");
        for (int n : new int[] {0, -1, 61}) {
            DUE.is("tried " + n, x.tried(n, 0), -1);
            DUE.is("tried " + n, x.tried(n, 10), -1);
        }
        for (int what : new int[] {-1, 4, 9, 12, 18, 19, Integer.MIN_VALUE, Integer.MAX_VALUE}) {
            DUE.is("tried what " + what, x.tried(1, what), -1);
        }
        DUE.is("shut", x.tried(3, 0), 0);
        DUE.is("shut", x.tried(4, 0), 1);
        DUE.is("shut", x.tried(60, 0), 2);
        DUE.is("cash of all", x.tried(3, 2), 2);
        DUE.is("cash of all", x.tried(4, 2), 1);
        DUE.is("debts of all", x.tried(3, 3), 12);
        DUE.is("debts of all", x.tried(4, 3), 6);
        DUE.is("debts of all", x.tried(60, 3), 0);
        DUE.is("of one", x.tried(2, 10), 3);
        DUE.is("of one", x.tried(2, 11), 1);
        DUE.is("of one", x.tried(2, 13), 0);
        DUE.is("of one that is shut", x.tried(4, 11), 0);
        DUE.is("nothing is changed", x.count(0) + x.count(1), 0);
        DUE.is("nothing is changed", x.count(7), 1);
        DUE.is("nothing is changed", x.bankIs(0, 0) + x.bankIs(0, 2), 11);
        DUE.is("then done", x.months(4), 1);
        DUE.is("as tried", x.bankIs(0, 0) + x.count(8), 7);
    }

    /** FALLEN are all that were SHUT in MONTHS; months and tried tell those of their own MONTHS alone. */
    private static void fallenInAll() {
        ToadBank x = new ToadBank();
        Due.law(x, "w1(b<4);x(b>3)");
        for (int times = 1; times <= 20; times++) {
            for (int b = 0; b < 8; b++) {
                x.bank(b, 0);
            }
            DUE.is("tried", x.tried(1, 0), 8);
            DUE.is("fallen ahead", x.count(1), 8 * (times - 1));
            DUE.is("shut", x.months(2), 8);
            DUE.is("fallen", x.count(1), 8 * times);
            DUE.is("no more", x.tried(1, 0), 0);
            DUE.is("no more", x.months(1), 0);
        }
    }

    /** Promise 34. */
    private static void seed() {
        ToadBank x = Due.town(0);
        for (int n : new int[] {-1, 65536, Integer.MIN_VALUE, Integer.MAX_VALUE}) {
            DUE.is("seed " + n, x.seed(n), false);
        }
        DUE.is("x", x.count(7), 1);
        DUE.is("seed", x.seed(65535), true);
        DUE.is("x", x.count(7), 65535);
        x.months(1);
        DUE.is("drawn", x.count(7), (25173L * 65535 + 13849) % 65536);
        DUE.is("seed", x.seed(0), true);
        x.months(1);
        DUE.is("drawn", x.count(7), 13849);
    }
}
