/** The bounds of CASH, DEBTS, SHARES, THE MONTH, X and of what a law says, by each way that leads to them. */
final class TownEdgesTest {
    private static final Due DUE = new Due();

    public static void main(String[] args) {
        cashByBank();
        cashByMonths();
        cashByRuns();
        cashByMerging();
        debtsByOwe();
        debtsByGrowth();
        debtsByMerging();
        shares();
        sharesOfSeven();
        theMonth();
        theMonthModuloTwelve();
        draws();
        amountsOfRules();
        wrapAround();
        divided();
        refusedAmounts();
        lettersThatAreNotTold();
        lettersAtTheirBounds();
        whatIsAskedWhen();
        reopened();
        DUE.end();
    }

    private static void cashByBank() {
        int[] cash = {Integer.MIN_VALUE, -1, 0, 1, 9998, 9999, 10000, Integer.MAX_VALUE};
        int[] banks = {Integer.MIN_VALUE, -1, 0, 1, 6, 7, 8, Integer.MAX_VALUE};
        for (int b : banks) {
            for (int much : cash) {
                ToadBank x = new ToadBank();
                boolean can = b >= 0 && b <= 7 && much >= 0 && much <= 9999;
                DUE.is("bank " + b + " " + much, x.bank(b, much), can);
                DUE.is("told", x.count(2), can ? 1 << b : 0);
                DUE.is("open", x.count(3), can ? 1 << b : 0);
                DUE.is("cash", x.bankIs(b, 0), can ? much : -1);
            }
        }
        ToadBank all = Due.town(0, 1, 2, 3, 4, 5, 6, 7);
        DUE.is("all eight", all.count(2), 255);
        for (int b = 0; b < 8; b++) {
            for (int to = 0; to < 8; to++) {
                DUE.is("DEBTS 0 at first", all.owes(b, to), b == to ? -1 : 0);
                DUE.is("SHARES 0 at first", all.holds(b, to), b == to ? -1 : 0);
            }
        }
    }

    /** CASH of bank 0 behind a month by such fees and such that is withdrawn; NONE if it is SHUT. */
    private static int behindAMonth(int cash, String law) {
        ToadBank x = Due.town(cash);
        DUE.is("law " + law, Due.law(x, law) > 0, true);
        int shut = x.months(1);
        DUE.is("open or shut", x.bankIs(0, 1), 1 - shut);
        DUE.is("fallen", x.count(1), shut);
        return shut == 1 ? -1 : x.bankIs(0, 0);
    }

    private static void cashByMonths() {
        DUE.is("9998 and 0", behindAMonth(9998, "f0(1=1)"), 9998);
        DUE.is("9998 and 1", behindAMonth(9998, "f1(1=1)"), 9999);
        DUE.is("9998 and 2", behindAMonth(9998, "f2(1=1)"), 9999);
        DUE.is("9999 and 999", behindAMonth(9999, "f999(1=1)"), 9999);
        DUE.is("cut off ahead of what is withdrawn", behindAMonth(9999, "f1(1=1);w1(1=1)"), 9998);
        DUE.is("cut off ahead of what is withdrawn", behindAMonth(9998, "f2(1=1);w1(1=1)"), 9998);
        DUE.is("not cut off", behindAMonth(9998, "f1(1=1);w1(1=1)"), 9998);
        DUE.is("1 left", behindAMonth(6, "w5(1=1)"), 1);
        DUE.is("0 left", behindAMonth(5, "w5(1=1)"), 0);
        DUE.is("below 0", behindAMonth(4, "w5(1=1)"), -1);
        DUE.is("0 less 0", behindAMonth(0, "w0(1=1)"), 0);
        DUE.is("0 less 1", behindAMonth(0, "w1(1=1)"), -1);
        DUE.is("by fees just enough", behindAMonth(0, "f5(1=1);w5(1=1)"), 0);
        DUE.is("by fees not enough", behindAMonth(0, "f4(1=1);w5(1=1)"), -1);
        DUE.is("without a law", new ToadBank().months(1), 0);
    }

    private static void cashByRuns() {
        // The draw behind seed 1 is 39022 modulo 10.
        DUE.is("2 is below 3", behindAMonth(10, "w5(1=1);q3(1=1)"), 0);
        DUE.is("2 is not below 2", behindAMonth(10, "w5(1=1);q2(1=1)"), 5);
        DUE.is("twice is too much", behindAMonth(9, "w5(1=1);q3(1=1)"), -1);
        DUE.is("once is not", behindAMonth(9, "w5(1=1);q2(1=1)"), 4);
        DUE.is("twice nothing", behindAMonth(0, "q10(1=1)"), 0);
        DUE.is("twice nothing", behindAMonth(0, "w0(1=1);q10(1=1)"), 0);
        DUE.is("twice 999, just enough", behindAMonth(1998, "w999(1=1);q10(1=1)"), 0);
        DUE.is("twice 999, 1 too much", behindAMonth(1997, "w999(1=1);q10(1=1)"), -1);
        // A run is one also of a bank that it shuts, and where w is 0; none is one of a shut one.
        ToadBank x = Due.town(0, 5, 5);
        Due.law(x, "w3(b=1);w2(b=2);q10(b<2)");
        DUE.is("runs", x.tried(1, 1), 2);
        DUE.is("shut", x.tried(1, 0), 1);
        DUE.is("runs", x.tried(2, 1), 3);
        DUE.is("runs", x.tried(60, 1), 61);
        DUE.is("shut", x.tried(60, 0), 2);
    }

    private static void cashByMerging() {
        int[][] two = {{0, 0}, {4999, 4999}, {5000, 4999}, {5000, 5000}, {9999, 0}, {0, 9999}, {9999, 1}, {1, 9999},
            {9999, 9999}};
        for (int[] cash : two) {
            ToadBank x = Due.town(cash);
            DUE.is("merge", x.merge(1, 0), true);
            DUE.is(cash[0] + " and " + cash[1], x.bankIs(1, 0), Math.min(9999, cash[0] + cash[1]));
            DUE.is("the second one has none", x.bankIs(0, 0), 0);
        }
    }

    private static void debtsByOwe() {
        int[] much = {Integer.MIN_VALUE, -1, 0, 1, 998, 999, 1000, Integer.MAX_VALUE};
        for (int n : much) {
            ToadBank x = Due.town(0, 0, 0, 0, 0, 0, 0, 0);
            x.owe(7, 0, 5);
            boolean can = n >= 0 && n <= 999;
            DUE.is("owe " + n, x.owe(7, 0, n), can);
            DUE.is("owes", x.owes(7, 0), can ? n : 5);
        }
        ToadBank x = Due.town(0, 0, 0, 0, 0, 0, 0, 0);
        for (int b = -1; b <= 8; b++) {
            for (int to = -1; to <= 8; to++) {
                boolean can = b >= 0 && b <= 7 && to >= 0 && to <= 7 && b != to;
                DUE.is("owe " + b + " " + to, x.owe(b, to, 999), can);
            }
        }
        DUE.is("all that can be owed", x.count(8), 56 * 999);
        DUE.is("by one", x.bankIs(3, 2), 6993);
        DUE.is("to one", x.bankIs(3, 3), 6993);
        DUE.is("all set off", x.setOff(), 56 * 999);
    }

    private static int grown(int debt, String growth) {
        ToadBank x = Due.town(0, 0);
        x.owe(1, 0, debt);
        DUE.is("law " + growth, Due.law(x, "i" + growth + "(1=1)"), 1);
        x.months(1);
        DUE.is("not the other one", x.owes(0, 1), 0);
        return x.owes(1, 0);
    }

    private static void debtsByGrowth() {
        DUE.is("0 does not grow", grown(0, "99"), 0);
        DUE.is("1 does", grown(1, "99"), 100);
        DUE.is("1 by 0", grown(1, "0"), 1);
        DUE.is("997 by 1", grown(997, "1"), 998);
        DUE.is("998 by 1", grown(998, "1"), 999);
        DUE.is("999 by 1", grown(999, "1"), 999);
        DUE.is("998 by 2", grown(998, "2"), 999);
        DUE.is("900 by 98", grown(900, "98"), 998);
        DUE.is("900 by 99", grown(900, "99"), 999);
        DUE.is("900 by 100", grown(900, "100"), 999);
        DUE.is("901 by 99", grown(901, "99"), 999);
        DUE.is("100 by 98", grown(100, "98"), 198);
        DUE.is("100 by 99", grown(100, "99"), 199);
        DUE.is("100 by 100", grown(100, "100"), 199);
        DUE.is("100 by 1", grown(100, "1"), 101);
        DUE.is("100 by 0", grown(100, "0"), 100);
        DUE.is("100 by less than 0", grown(100, "0-1"), 100);
    }

    private static void debtsByMerging() {
        int[][] two = {{0, 0}, {0, 999}, {999, 0}, {499, 499}, {500, 499}, {500, 500}, {999, 1}, {999, 999}};
        for (int[] n : two) {
            ToadBank x = Due.town(0, 0, 0);
            x.owe(0, 2, n[0]);
            x.owe(1, 2, n[1]);
            x.owe(2, 0, n[1]);
            x.owe(2, 1, n[0]);
            x.merge(0, 1);
            DUE.is("owes " + n[0] + " and " + n[1], x.owes(0, 2), Math.min(999, n[0] + n[1]));
            DUE.is("is owed " + n[1] + " and " + n[0], x.owes(2, 0), Math.min(999, n[0] + n[1]));
            DUE.is("none of the second one", x.owes(1, 2) + x.owes(2, 1), 0);
        }
    }

    private static void shares() {
        int[] hundredths = {Integer.MIN_VALUE, -1, 0, 1, 99, 100, 101, Integer.MAX_VALUE};
        for (int n : hundredths) {
            ToadBank x = Due.town(0, 0, 0, 0, 0, 0, 0, 0);
            x.hold(0, 7, 5);
            boolean can = n >= 0 && n <= 100;
            DUE.is("hold " + n, x.hold(0, 7, n), can);
            DUE.is("holds", x.holds(0, 7), can ? n : 5);
            DUE.is("not the other way", x.holds(7, 0), 0);
        }
        ToadBank x = Due.town(0, 0, 0, 0, 0, 0, 0, 0);
        for (int b = -1; b <= 8; b++) {
            for (int of = -1; of <= 8; of++) {
                boolean can = b >= 0 && b <= 7 && of >= 0 && of <= 7 && b != of;
                DUE.is("hold " + b + " " + of, x.hold(b, of, 14), can);
            }
        }
        // Seven times 14 are 98; one may have 16, none 17.
        DUE.is("98 and 1", x.hold(2, 5, 15), true);
        DUE.is("98 and 2", x.hold(2, 5, 16), true);
        DUE.is("98 and 3", x.hold(2, 5, 17), false);
        DUE.is("as before", x.holds(2, 5), 16);
        DUE.is("none more for another one", x.hold(3, 5, 15), false);
        DUE.is("as much as it has", x.hold(3, 5, 14), true);
    }

    /** Shares of others that both have come together; both had 100 at most of each. */
    private static void sharesOfSeven() {
        ToadBank x = Due.town(0, 0, 0, 0);
        x.hold(0, 2, 50);
        x.hold(1, 2, 50);
        x.hold(0, 3, 0);
        x.hold(1, 3, 99);
        x.hold(3, 0, 7);
        x.hold(2, 1, 9);
        x.merge(0, 1);
        DUE.is("all of it", x.holds(0, 2), 100);
        DUE.is("what the second one had", x.holds(0, 3), 99);
        DUE.is("of the first one", x.holds(3, 0), 7);
        DUE.is("of the second one", x.holds(2, 1), 0);
        DUE.is("no more fits", x.hold(3, 2, 1), false);
        DUE.is("1 more fits", x.hold(2, 3, 1), true);
        DUE.is("2 more do not", x.hold(2, 3, 2), false);
        DUE.is("100 of it", x.bankIs(0, 5), 12);
    }

    private static ToadBank lateTown(int month) {
        ToadBank x = Due.town(100);
        for (int left = month; left > 0; left -= 60) {
            x.months(Math.min(60, left));
        }
        DUE.is("month", x.count(0), month);
        return x;
    }

    private static void theMonth() {
        DUE.is("0 at first", new ToadBank().count(0), 0);
        ToadBank x = lateTown(9997);
        Due.law(x, "f1(1=1)");
        DUE.is("three are two", x.tried(3, 10), 102);
        DUE.is("two", x.tried(2, 10), 102);
        DUE.is("one", x.tried(1, 10), 101);
        x.months(1);
        DUE.is("9998", x.count(0), 9998);
        DUE.is("two are one", x.tried(2, 10), 102);
        x.months(2);
        DUE.is("9999", x.count(0), 9999);
        DUE.is("cash", x.bankIs(0, 0), 102);
        int drawn = x.count(7);
        Due.law(x, "f1(1=1);w9(1=1);q10(1=1);x(1=1)");
        DUE.is("none goes by", x.months(1), 0);
        DUE.is("none goes by", x.months(60), 0);
        DUE.is("none goes by", x.tried(60, 0), 0);
        DUE.is("none goes by", x.tried(60, 1), 0);
        DUE.is("none goes by", x.tried(60, 2), 102);
        DUE.is("no such n, all the same", x.months(61), -1);
        DUE.is("month", x.count(0), 9999);
        DUE.is("x", x.count(7), drawn);
        DUE.is("open", x.count(3), 1);
        DUE.is("kept", x.keep(), 9999);
        for (int n : new int[] {-1, 0, 1, 2, 59, 60, 61}) {
            boolean can = n >= 1 && n <= 60;
            ToadBank y = Due.town(0);
            DUE.is("tried " + n, y.tried(n, 2), can ? 0 : -1);
            DUE.is("months " + n, y.months(n), can ? 0 : -1);
            DUE.is("month", y.count(0), can ? n : 0);
        }
    }

    private static void theMonthModuloTwelve() {
        ToadBank x = Due.town(0);
        Due.law(x, "fm+1(1=1)");
        int sum = 0;
        for (int month = 0; month < 26; month++) {
            DUE.is("as it is ahead of its one more", x.tried(1, 10), sum + month % 12 + 1);
            x.months(1);
            sum += month % 12 + 1;
        }
        // The last one that goes by is 9998, and 9998 modulo 12 is 2; in i and x it is the same one.
        ToadBank late = lateTown(9998);
        late.bank(1, 0);
        late.owe(0, 1, 1);
        Due.law(late, "f1(m=2);i1(m=2);x(b=1&m=2)");
        DUE.is("x", late.tried(1, 0), 1);
        Due.law(late, "f1(m=2);i1(m=2);x(m=3)");
        DUE.is("x", late.months(1), 0);
        DUE.is("f", late.bankIs(0, 0), 101);
        DUE.is("i", late.owes(0, 1), 2);
    }

    private static void draws() {
        ToadBank x = Due.town(0);
        int asked = 0;
        for (int seed = 0; seed < 65536; seed++) {
            if (asked > 450) {
                x = Due.town(0);
                asked = 0;
            }
            long next = (25173L * seed + 13849) % 65536;
            boolean isEdge = next < 20 || next > 65515 || seed < 20 || seed > 65515;
            if (isEdge || seed % 16 == 0) {
                x.seed(seed);
                x.months(1);
                DUE.is("x behind " + seed, x.count(7), next);
                asked += 3;
            }
            if (isEdge) {
                long draw = next % 10;
                for (int q = 0; q <= 10; q++) {
                    ToadBank y = Due.town(0);
                    y.seed(seed);
                    Due.law(y, "q" + q + "(1=1)");
                    DUE.is("draw " + draw + " below " + q, y.tried(1, 1), draw < q ? 1 : 0);
                }
            }
        }
        for (int seed : new int[] {Integer.MIN_VALUE, -1, 0, 1, 65534, 65535, 65536, 65537, Integer.MAX_VALUE}) {
            ToadBank y = new ToadBank();
            boolean can = seed >= 0 && seed <= 65535;
            DUE.is("seed " + seed, y.seed(seed), can);
            DUE.is("x", y.count(7), can ? seed : 1);
        }
    }

    private static void amountsOfRules() {
        int[] said = {-2, -1, 0, 1, 2, 9, 10, 11, 98, 99, 100, 998, 999, 1000, 99999};
        for (int n : said) {
            String sum = n < 0 ? "0-" + -n : "" + n;
            int bounded = Math.max(0, Math.min(999, n));
            DUE.is("f " + n, behindAMonth(100, "f" + sum + "(1=1)"), 100 + bounded);
            DUE.is("w " + n, behindAMonth(9999, "w" + sum + "(1=1)"), 9999 - bounded);
            DUE.is("i " + n, grown(100, sum), 100 + Math.min(99, bounded));
            ToadBank x = Due.town(0);
            Due.law(x, "q" + sum + "(1=1)");
            int runs = 0;
            for (int month = 1; month <= 60; month++) {
                x.months(1);
                runs += x.count(7) % 10 < n ? 1 : 0;
            }
            x.seed(1);
            DUE.is("q " + n, x.tried(60, 1), runs);
        }
    }

    /** All is reckoned with 32 bits, as the machine does. */
    private static void wrapAround() {
        String most = "65536*32767+65535";
        String least = "0-65536*32768";
        String[] hold = {most + ">0", most + "+1<0", most + "+1=" + least, "[" + most + "]*2=0-2",
            least + "<0", least + "-1>0", least + "-1=" + most, "0-[" + least + "]=" + least,
            "[" + least + "]/[0-1]=" + least, "[" + least + "]%[0-1]=0", "65536*65536=0", "65535*65537=0-1",
            "46340*46340>0", "46341*46341<0", "99999*99999=1409865409"};
        for (String c : hold) {
            if (c.endsWith("1409865409")) {
                c = "99999*99999=14098*[99999+1]+65409";
            }
            DUE.is(c, behindAMonth(0, "f1(" + c + ")"), 1);
            DUE.is("!" + c, behindAMonth(0, "f1(!" + c + ")"), 0);
        }
        DUE.is("bounded behind it", behindAMonth(0, "f" + most + "(1=1)"), 999);
        DUE.is("bounded behind it", behindAMonth(0, "f" + most + "+1(1=1)"), 0);
    }

    private static void divided() {
        String[] hold = {"7/2=3", "7%2=1", "[0-7]/2=0-3", "[0-7]%2=0-1", "7/[0-2]=0-3", "7%[0-2]=1",
            "[0-7]/[0-2]=3", "[0-7]%[0-2]=0-1", "7/1=7", "7%1=0", "7/[0-1]=0-7", "7%[0-1]=0", "0/7=0", "0%7=0",
            "7/7=1", "7/8=0", "7%8=7", "2+3*4=14", "2*3+4=10", "9-3-2=4", "9-3+2=8", "24/4/2=3", "24/4*2=12",
            "2*7%4=2", "2*[7%4]=6", "7%4*2=6", "10-2*3=4", "[10-2]*3=24", "1<2", "!2<2", "!3<2", "3>2", "!2>2",
            "!1>2", "2=2", "!1=2", "!2=1"};
        for (String c : hold) {
            DUE.is(c, behindAMonth(0, "f1(" + c + ")"), 1);
        }
        for (String zero : new String[] {"1/0=1", "1%0=1", "0/0=0", "0%0=0", "1/[1-1]=1", "1/b=0", "1%c=0", "1/[2/3]=0"}) {
            for (String around : new String[] {"?", "!?", "!!?", "(?)", "!(?)", "?|1=1", "1=2|?|1=1", "!(?|1=1)",
                "!(1=1&?)", "1=1&?", "1=2|(1=2|!(?))", "(?|1=1)|1=1", "(?)|1=1", "!(!?)|1=1"}) {
                String c = around.replace("?", zero);
                DUE.is(c, behindAMonth(0, "f1(" + c + ")"), 0);
            }
            for (String around : new String[] {"1=1|?", "1=2&?|1=1", "!(1=2&?)", "(1=1|?)&1=1", "!1=2|?", "!1=1&?|1=1",
                "1=1|1=1&?", "(1=1|?)|?", "!(1=1|?)|1=1", "!(1=2&?)&1=1"}) {
                String c = around.replace("?", zero);
                DUE.is(c, behindAMonth(0, "f1(" + c + ")"), 1);
            }
        }
    }

    /** The amount of the first rule whose C holds is 0 if it is divided by 0; no later one is asked. */
    private static void refusedAmounts() {
        for (String e : new String[] {"1/0", "5+1/0", "5%0", "[1/0]", "5+[1%0]", "1/0*0", "7-1/c", "5+0*[1/0]"}) {
            DUE.is("f", behindAMonth(0, "f" + e + "(1=1);f9(1=1)"), 0);
            DUE.is("w", behindAMonth(0, "w" + e + "(1=1);w9(1=1)"), 0);
            DUE.is("i", grown(100, e), 100);
            ToadBank x = Due.town(0);
            Due.law(x, "q" + e + "(1=1);q10(1=1)");
            DUE.is("q", x.tried(60, 1), 0);
            Due.law(x, "x(" + e + "=0)");
            DUE.is("x", x.tried(1, 0), 0);
            Due.law(x, "x(" + e + "=0);x(1=1)");
            DUE.is("any x will do", x.tried(1, 0), 1);
            DUE.is("the next f", behindAMonth(0, "f9(" + e + "=0);f4(1=1)"), 4);
        }
    }

    private static void lettersThatAreNotTold() {
        for (String letter : new String[] {"f", "w", "q"}) {
            ToadBank x = Due.town(9, -1, -1, 100);
            x.owe(3, 0, 30);
            Due.law(x, letter + "7*[e+1]+d(b=3&e=0&d=0)");
            if (letter.equals("q")) {
                DUE.is("q 7", x.tried(60, 1) > 0, true);
            } else {
                DUE.is(letter, x.tried(1, 13), letter.equals("f") ? 107 : 93);
            }
        }
        ToadBank x = Due.town(9, -1, -1, 100);
        x.owe(3, 0, 30);
        Due.law(x, "x(b=3&e=0&d=0)");
        DUE.is("x", x.tried(1, 0), 1);
        // What was told in i is told no more in x or in the next month's f.
        Due.law(x, "i1(1=1);f1(!d=0|!e=0);x(!d=0|!e=0)");
        DUE.is("x", x.tried(60, 0), 0);
        DUE.is("f", x.tried(60, 13), 100);
    }

    private static void lettersAtTheirBounds() {
        for (int b = 0; b < 8; b++) {
            ToadBank x = Due.town(0, 0, 0, 0, 0, 0, 0, 0);
            Due.law(x, "fb+1(b=" + b + ")");
            DUE.is("b", x.tried(1, 10 + b), b + 1);
            DUE.is("b alone", x.tried(1, 2), b + 1);
            for (int to = 0; to < 8; to++) {
                if (to != b) {
                    x.owe(b, to, 500);
                }
            }
            Due.law(x, "ie*10+1(b=" + b + ")");
            x.months(1);
            for (int to = 0; to < 8; to++) {
                DUE.is("e", x.owes(b, to), to == b ? -1 : 501 + to * 10);
            }
        }
        ToadBank x = Due.town(9999, 0);
        x.owe(0, 1, 999);
        x.owe(1, 0, 1);
        Due.law(x, "f1(b=1&c=0&o=1&g=999);w1(b=0&c=9999&o=999&g=1);i7(d=1&e=0&c=1);i5(d=999)");
        x.months(1);
        DUE.is("f", x.bankIs(1, 0), 1);
        DUE.is("w", x.bankIs(0, 0), 9998);
        DUE.is("i", x.owes(1, 0), 8);
        DUE.is("i", x.owes(0, 1), 999);
        ToadBank y = Due.town(0, 0, 0, 0, 0, 0, 0, 0);
        for (int b = 1; b < 8; b++) {
            y.owe(0, b, 999);
            y.owe(b, 0, 999);
        }
        Due.law(y, "f1(o=6993&g=6993)");
        DUE.is("o and g", y.tried(1, 2), 1);
    }

    /** Fees and withdrawals first, then growth, then x; each behind the one ahead. */
    private static void whatIsAskedWhen() {
        ToadBank x = Due.town(10, 20, 30);
        x.owe(0, 1, 5);
        Due.law(x, "f5(c=10);f7(c=15);w3(c=10);w9(c=15);i2(c=12);x(o=7&c=12);x(g=7)");
        DUE.is("0 alone is shut", x.months(1), 1);
        DUE.is("0", x.count(3), 6);
        DUE.is("1 is owed nothing then", x.bankIs(1, 3), 0);
        // By numbers: 0 is shut by 1's debt, as it stands then; 1 would be by 0's.
        ToadBank y = Due.town(0, 0, 0);
        y.owe(0, 1, 5);
        y.owe(1, 2, 5);
        y.owe(2, 0, 5);
        Due.law(y, "x(g>0)");
        DUE.is("0 and 2", y.months(1), 2);
        DUE.is("1 is left", y.count(3), 2);
        DUE.is("nothing is owed", y.count(8), 0);
        // What is shut in the months' first step has no growth, no x; it is counted once.
        ToadBank z = Due.town(0, 5);
        z.owe(0, 1, 5);
        z.owe(1, 0, 5);
        Due.law(z, "w1(b=0);i1(1=1);x(b=0);x(o=1)");
        DUE.is("once", z.months(1), 1);
        DUE.is("once", z.count(1), 1);
        DUE.is("no more", z.months(60), 0);
    }

    /** In place of the one before: open; DEBTS, SHARES stay, of one that was SHUT 0. */
    private static void reopened() {
        ToadBank x = Due.town(1, 2, 3);
        x.owe(0, 1, 5);
        x.owe(2, 0, 6);
        x.hold(0, 1, 51);
        x.hold(2, 0, 52);
        x.bank(0, 9);
        DUE.is("stay", x.owes(0, 1) * 10 + x.owes(2, 0), 56);
        DUE.is("stay", x.holds(0, 1) * 100 + x.holds(2, 0), 5152);
        x.merge(2, 0);
        DUE.is("told", x.bankIs(0, 1), 0);
        x.bank(0, 9);
        DUE.is("open", x.bankIs(0, 1), 1);
        DUE.is("0", x.owes(0, 1) + x.owes(2, 0), 0);
        DUE.is("0", x.holds(0, 1) + x.holds(2, 0), 0);
        DUE.is("what went to the other one", x.owes(2, 1), 5);
        DUE.is("what went to the other one", x.holds(2, 1), 51);
        DUE.is("all may be had again", x.hold(1, 0, 100), true);
    }
}
