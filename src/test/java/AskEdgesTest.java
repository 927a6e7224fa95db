/** The edges of what is asked: clearing, blows, help, rings, roads, mergers, control, sums, loans, codes, checks. */
final class AskEdgesTest {
    private static final Due DUE = new Due();

    public static void main(String[] args) {
        payJustAll();
        parts();
        nothingToPay();
        rounds();
        keystones();
        blows();
        helpByOne();
        setOff();
        settledAtMost();
        rings();
        roads();
        mergersByOne();
        mergersAtMost();
        control();
        tamperedByOne();
        tamperedBytes();
        takenByOne();
        loansByOne();
        paymentsByOne();
        leastRow();
        readAtOnce();
        howOften();
        checkOne();
        counts();
        worth();
        DUE.end();
    }

    private static ToadBank eight(int cash) {
        return Due.town(cash, cash, cash, cash, cash, cash, cash, cash);
    }

    private static void shut(ToadBank x, int b) {
        Due.law(x, "x(b=" + b + ")");
        x.months(1);
    }

    /** Each pays all that it owes if it can: at just as much it can, at 1 less it can't. */
    private static void payJustAll() {
        for (int cash = 9; cash <= 11; cash++) {
            ToadBank x = Due.town(cash, 0);
            x.owe(0, 1, 10);
            DUE.is("who", x.cleared(0), cash < 10 ? 1 : 0);
            DUE.is("rounds", x.cleared(1), cash < 10 ? 1 : 0);
            DUE.is("pays", x.cleared(10), Math.min(10, cash));
            DUE.is("gets", x.cleared(21), Math.min(10, cash));
            DUE.is("when", x.falls(0), cash < 10 ? 1 : -2);
            DUE.is("worth", x.bankIs(0, 4), cash - 10);
        }
        // By what it gets: 4 of its own and 6, 5 or 7 of another one.
        for (int gets = 5; gets <= 7; gets++) {
            ToadBank x = Due.town(4, 0, gets);
            x.owe(0, 1, 10);
            x.owe(2, 0, 6);
            int paid = Math.min(6, gets);
            DUE.is("pays", x.cleared(12), paid);
            DUE.is("pays", x.cleared(10), 4 + paid);
            DUE.is("who", x.cleared(0), gets < 6 ? 5 : 0);
            DUE.is("rounds", x.cleared(1), gets < 6 ? 2 : 0);
            DUE.is("when", x.falls(0), gets < 6 ? 2 : -2);
        }
    }

    /** Its part of that: the DEBT times what is paid through what is owed in all, rounded down. */
    private static void parts() {
        for (int cash = 0; cash <= 40; cash++) {
            ToadBank x = Due.town(cash, 0, 0, 0);
            x.owe(0, 1, 7);
            x.owe(0, 2, 11);
            x.owe(0, 3, 13);
            int paid = Math.min(31, cash);
            DUE.is("pays", x.cleared(10), paid);
            DUE.is("7 of 31", x.cleared(21), 7 * paid / 31);
            DUE.is("11 of 31", x.cleared(22), 11 * paid / 31);
            DUE.is("13 of 31", x.cleared(23), 13 * paid / 31);
        }
        ToadBank most = eight(0);
        for (int to = 0; to < 7; to++) {
            most.owe(7, to, 999);
        }
        most.bank(7, 6992);
        DUE.is("1 too little", most.cleared(17), 6992);
        DUE.is("a seventh, rounded down", most.cleared(20), 998);
        DUE.is("a seventh, rounded down", most.cleared(26), 998);
        most.bank(7, 6993);
        DUE.is("just enough", most.cleared(0), 0);
        DUE.is("a seventh", most.cleared(26), 999);
    }

    private static void nothingToPay() {
        for (int what = 0; what <= 1; what++) {
            DUE.is("none told", new ToadBank().cleared(what), 0);
            DUE.is("no debts", eight(0).cleared(what), 0);
        }
        for (int what = -3; what <= 31; what++) {
            int want = what == 0 || what == 1 || what >= 10 && what <= 17 || what >= 20 && what <= 27 ? 0 : -1;
            DUE.is("cleared " + what, eight(5).cleared(what), want);
            int none = what == 0 || what == 1 ? 0 : -1;
            DUE.is("cleared " + what + ", none told", new ToadBank().cleared(what), none);
        }
        for (int b = -1; b <= 8; b++) {
            DUE.is("falls " + b, eight(5).falls(b), b >= 0 && b <= 7 ? -2 : -1);
        }
        ToadBank x = eight(3);
        x.owe(4, 5, 9);
        x.owe(5, 4, 9);
        shut(x, 4);
        for (int what : new int[] {14, 24, 15, 25, 0, 1}) {
            DUE.is("shut, nothing is owed", x.cleared(what), 0);
        }
        DUE.is("shut", x.falls(4), -2);
    }

    private static void rounds() {
        // A chain of eight: each waits for the one ahead.
        for (int cash = 0; cash <= 1; cash++) {
            ToadBank x = eight(0);
            x.bank(0, cash);
            for (int b = 0; b < 7; b++) {
                x.owe(b, b + 1, 1);
            }
            DUE.is("who", x.cleared(0), cash == 0 ? 127 : 0);
            DUE.is("rounds", x.cleared(1), cash == 0 ? 7 : 0);
            for (int b = 0; b < 8; b++) {
                DUE.is("when " + b, x.falls(b), cash == 0 && b < 7 ? b + 1 : -2);
                DUE.is("pays " + b, x.cleared(10 + b), b < 7 ? cash : 0);
            }
        }
        // When it first paid less, not when it last did.
        ToadBank x = Due.town(0, 5, 0);
        x.owe(0, 1, 3);
        x.owe(1, 2, 9);
        DUE.is("both in the first round", x.falls(0) * 10 + x.falls(1), 11);
        DUE.is("less again in the second one", x.cleared(1), 2);
        DUE.is("pays", x.cleared(11), 5);
    }

    private static void keystones() {
        ToadBank x = eight(1);
        DUE.is("none falls: the lowest", x.keystone(0), 0);
        DUE.is("none falls", x.keystone(1), 0);
        x.owe(7, 0, 1);
        DUE.is("one", x.keystone(0), 7);
        DUE.is("one", x.keystone(1), 1);
        x.owe(6, 0, 1);
        DUE.is("like ones", x.keystone(0), 6);
        x.owe(0, 7, 1);
        // Without its own cash 0 pays what it gets of 6 and 7, 1 of 2; none falls.
        DUE.is("like ones", x.keystone(0), 6);
        shut(x, 6);
        DUE.is("what is shut is none", x.keystone(0) != 6, true);
        ToadBank last = new ToadBank();
        last.bank(7, 0);
        DUE.is("the one alone", last.keystone(0), 7);
        DUE.is("none falls", last.keystone(1), 0);
        ToadBank all = eight(0);
        all.bank(3, 7);
        for (int b = 0; b < 8; b++) {
            all.owe(3, b, 1);
            all.owe(b, (b + 1) % 8, 1);
        }
        for (int what = -1; what <= 2; what++) {
            int want = what == 0 || what == 1 ? 1 : -1;
            DUE.is("keystone " + what, all.keystone(what) >= 0 ? 1 : -1, want);
            DUE.is("none open " + what, new ToadBank().keystone(what), what == 0 ? -2 : what == 1 ? 0 : -1);
        }
        // Those that fall without any loss fall with each one.
        ToadBank bad = Due.town(0, 0, 5);
        bad.owe(1, 0, 1);
        DUE.is("the lowest", bad.keystone(0), 0);
        DUE.is("1 falls anyway", bad.keystone(1), 1);
    }

    private static void blows() {
        for (int much : new int[] {Integer.MIN_VALUE, -1, 0, 1, 5, 6, 9998, 9999, 10000, Integer.MAX_VALUE}) {
            ToadBank x = Due.town(10, 0);
            x.owe(0, 1, 5);
            int want = much < 0 || much > 9999 ? -1 : much > 5 ? 1 : 0;
            DUE.is("blow " + much, x.blow(0, much), want);
            DUE.is("cash stays", x.bankIs(0, 0), 10);
        }
        for (int cash = 0; cash <= 12; cash++) {
            ToadBank x = Due.town(cash, 0, 2);
            x.owe(0, 1, 5);
            x.owe(1, 2, 3);
            // 1 needs 3 of the 5 that 0 owes it alone.
            DUE.is("itself", x.leastBlow(0, 0), cash < 5 ? 0 : cash - 4);
            DUE.is("another", x.leastBlow(0, 1), cash < 3 ? 0 : cash - 2);
            DUE.is("by none", x.leastBlow(0, 2), -2);
            DUE.is("by none of 2", x.leastBlow(2, 1), cash < 3 ? 0 : -2);
        }
        ToadBank all = Due.town(9999, 0);
        all.owe(0, 1, 1);
        DUE.is("all its cash", all.leastBlow(0, 0), 9999);
        all.owe(1, 0, 1);
        DUE.is("it gets as much", all.leastBlow(0, 0), -2);
        all.bank(0, 0);
        all.bank(1, 0);
        DUE.is("no cash at all", all.leastBlow(0, 0), -2);
        all.owe(0, 1, 2);
        DUE.is("falls already", all.leastBlow(1, 0), 0);
        // Those that fall without any blow are told with each one.
        ToadBank bad = Due.town(10, 0, 0, 0);
        bad.owe(1, 2, 1);
        bad.owe(0, 3, 5);
        int[] hurt = {0, 5, 6, 9999};
        int[] fall = {2, 2, 3, 3};
        for (int i = 0; i < hurt.length; i++) {
            DUE.is("1 falls anyway, blow " + hurt[i], bad.blow(0, hurt[i]), fall[i]);
            DUE.is("1 falls anyway, blow to 3", bad.blow(3, hurt[i]), 2);
        }
        DUE.is("0 does not fall already", bad.leastBlow(0, 0), 6);
        DUE.is("1 does", bad.leastBlow(0, 1), 0);
        for (int b = -1; b <= 8; b++) {
            boolean isOpen = b == 0 || b == 1;
            DUE.is("leastBlow " + b, all.leastBlow(b, 0) == -1, !isOpen);
            DUE.is("leastBlow to " + b, all.leastBlow(0, b) == -1, !isOpen);
            DUE.is("blow " + b, all.blow(b, 0) == -1, !isOpen);
            DUE.is("help " + b, all.help(b) == -1, !isOpen);
        }
    }

    private static void helpByOne() {
        for (int owed = 8; owed <= 12; owed++) {
            ToadBank x = Due.town(10, 10, 0);
            x.owe(0, 2, owed);
            DUE.is("itself", x.help(0), Math.max(0, owed - 10));
            DUE.is("another one", x.help(1), owed > 10 ? -2 : 0);
            DUE.is("another one", x.help(2), owed > 10 ? -2 : 0);
        }
        // Help goes on to those that it owes, but not to others that are short by 1.
        ToadBank x = Due.town(0, 0, 5);
        x.owe(0, 1, 7);
        x.owe(1, 2, 7);
        DUE.is("all by 0", x.help(0), 7);
        DUE.is("none by 1", x.help(1), -2);
        x.owe(1, 2, 8);
        DUE.is("1 is short by 1", x.help(0), -2);
        x.bank(1, 1);
        DUE.is("1 is short by none", x.help(0), 7);
        ToadBank most = eight(0);
        for (int to = 0; to < 7; to++) {
            most.owe(7, to, 999);
        }
        DUE.is("the most", most.help(7), 6993);
        most.bank(7, 6993);
        DUE.is("none", most.help(7), 0);
        DUE.is("with so much nobody falls", most.cleared(0), 0);
        most.bank(7, 6992);
        DUE.is("1", most.help(7), 1);
        DUE.is("with 1 less one does", most.cleared(0), 128);
        most.bank(7, 9999);
        DUE.is("0", most.help(0), 0);
    }

    private static void setOff() {
        for (int n = 0; n <= 3; n++) {
            ToadBank x = Due.town(0, 0);
            x.owe(0, 1, 2);
            x.owe(1, 0, n);
            DUE.is("2 and " + n, x.setOff(), 2 * Math.min(2, n));
        }
        ToadBank x = eight(0);
        x.owe(6, 7, 3);
        x.owe(7, 6, 999);
        DUE.is("the last two", x.setOff(), 6);
        x.owe(0, 7, 5);
        x.owe(7, 0, 4);
        DUE.is("two twos", x.setOff(), 14);
        shut(x, 0);
        DUE.is("one is shut", x.setOff(), 6);
    }

    private static void settledAtMost() {
        // One owes all others, each another sum: no part of them comes to 0.
        ToadBank x = eight(0);
        for (int to = 1; to < 8; to++) {
            x.owe(0, to, 1 << to);
        }
        DUE.is("seven payings", x.settled(0), 7);
        DUE.is("one group", x.settled(1), 1);
        ToadBank twos = eight(0);
        for (int b = 0; b < 8; b += 2) {
            twos.owe(b, b + 1, 1);
        }
        DUE.is("four payings", twos.settled(0), 4);
        DUE.is("four groups", twos.settled(1), 4);
        // The same sums, by debts between other ones: 0, 2, 4, 6 owe 1 each, 1, 3, 5, 7 are owed 1 each.
        ToadBank other = eight(0);
        for (int b = 0; b < 8; b += 2) {
            other.owe(b, (b + 3) % 8, 1);
        }
        DUE.is("four payings", other.settled(0), 4);
        DUE.is("four groups", other.settled(1), 4);
        other.owe(0, 3, 2);
        DUE.is("a group of its own", other.settled(0), 4);
        other.owe(0, 3, 3);
        other.owe(2, 5, 2);
        // -3, -2, -1, -1 and +3, +2, +1, +1.
        DUE.is("still four", other.settled(1), 4);
        other.owe(2, 3, 1);
        // -3, -3, -1, -1 and +1, +4, +2, +1: 1 and 1 twice, then -3, -3, +4, +2.
        DUE.is("three groups", other.settled(1), 3);
        DUE.is("five payings", other.settled(0), 5);
        for (int what = -1; what <= 2; what++) {
            DUE.is("settled " + what, eight(0).settled(what), what == 0 || what == 1 ? 0 : -1);
        }
        shut(other, 0);
        DUE.is("one is shut", other.settled(0) + other.settled(1), 7);
    }

    private static void rings() {
        for (int length = 2; length <= 8; length++) {
            ToadBank x = eight(0);
            for (int i = 0; i < length; i++) {
                x.owe(i, (i + 1) % length, i == 1 ? 1 : 999);
            }
            for (int b = 0; b < 8; b++) {
                DUE.is(length + " of " + b, x.ring(b, 0), b < length ? length : -2);
                DUE.is("least of " + b, x.ring(b, 1), b < length ? 1 : -2);
            }
            x.owe(1, 2 % length, 999);
            DUE.is("most", x.ring(0, 1), 999);
            x.owe(1, 2 % length, 0);
            DUE.is("broken", x.ring(0, 0), -2);
        }
        for (int b = -1; b <= 8; b++) {
            for (int what = -1; what <= 2; what++) {
                boolean can = b >= 0 && b <= 7 && (what == 0 || what == 1);
                DUE.is("ring " + b + " " + what, eight(0).ring(b, what), can ? -2 : -1);
            }
        }
    }

    private static void roads() {
        for (int length = 1; length <= 7; length++) {
            ToadBank x = eight(0);
            for (int i = 0; i < length; i++) {
                x.owe(i, i + 1, i == length / 2 ? 1 : 999);
            }
            for (int to = 1; to < 8; to++) {
                DUE.is("wide to " + to, x.road(0, to, 0), to > length ? -2 : to > length / 2 ? 1 : 999);
                DUE.is("debts to " + to, x.road(0, to, 1), to > length ? -2 : to);
            }
            DUE.is("not back", x.road(length, 0, 0), -2);
        }
        // 1 wider by more debts is better, just as wide is not.
        for (int wide = 4; wide <= 6; wide++) {
            ToadBank x = Due.town(0, 0, 0);
            x.owe(0, 2, 5);
            x.owe(0, 1, wide);
            x.owe(1, 2, 7);
            DUE.is("wide", x.road(0, 2, 0), Math.max(5, wide));
            DUE.is("debts", x.road(0, 2, 1), wide > 5 ? 2 : 1);
        }
        for (int b = -1; b <= 8; b++) {
            for (int to = -1; to <= 8; to++) {
                for (int what = -1; what <= 2; what++) {
                    boolean can = b >= 0 && b <= 7 && to >= 0 && to <= 7 && b != to && (what == 0 || what == 1);
                    DUE.is("road " + b + " " + to + " " + what, eight(0).road(b, to, what), can ? -2 : -1);
                }
            }
        }
    }

    /** Worth less than 0: at -1 one is, at 0 not. */
    private static void mergersByOne() {
        for (int cash = 6; cash <= 8; cash++) {
            ToadBank x = Due.town(cash, 0, 0);
            x.owe(0, 2, 7);
            DUE.is("one of two", x.mergers(3, 0), cash < 7 ? 1 : 0);
            DUE.is("no two is needed", x.mergers(3, 1), 0);
            DUE.is("with the one that is owed", x.mergers(5, 0), 0);
            DUE.is("one two, or none", x.mergers(5, 1), cash < 7 ? 1 : 0);
            ToadBank y = Due.town(0, cash, 0);
            y.owe(0, 2, 7);
            DUE.is("together", y.mergers(3, 0), cash < 7 ? 1 : 0);
            DUE.is("together", y.mergers(3, 1), cash < 7 ? 0 : 1);
        }
    }

    private static void mergersAtMost() {
        ToadBank x = eight(0);
        for (int b = 0; b < 8; b += 2) {
            x.owe(b, b + 1, 9);
        }
        DUE.is("all eight", x.mergers(255, 0), 0);
        DUE.is("four twos", x.mergers(255, 1), 4);
        DUE.is("the four that owe", x.mergers(85, 0), 2);
        DUE.is("two twos", x.mergers(85, 1), 2);
        DUE.is("the four that are owed", x.mergers(170, 0) + x.mergers(170, 1), 0);
        for (int banks = -2; banks <= 260; banks++) {
            boolean can = banks >= 0 && banks <= 255 && Integer.bitCount(banks) >= 2;
            DUE.is("mergers " + banks, x.mergers(banks, 0) >= 0, can);
        }
        for (int what = -1; what <= 2; what++) {
            DUE.is("what " + what, x.mergers(3, what) >= 0, what == 0 || what == 1);
        }
        // The fewest twos of those that leave as few below 0: 0 alone makes up for both.
        ToadBank y = Due.town(20, 0, 0, 0);
        y.owe(1, 3, 5);
        y.owe(2, 3, 5);
        DUE.is("1 and 2 together are one below 0", y.mergers(7, 0), 1);
        DUE.is("one two", y.mergers(7, 1), 1);
        DUE.is("all four", y.mergers(15, 0), 0);
        DUE.is("two twos", y.mergers(15, 1), 2);
        shut(y, 3);
        DUE.is("one is shut", y.mergers(15, 0), -1);
        DUE.is("the others", y.mergers(7, 0) + y.mergers(7, 1), 0);
        // Cash together may be more than one BANK may have, and so may DEBTS: 11988 each.
        ToadBank z = eight(0);
        z.bank(0, 5995);
        z.bank(1, 5993);
        for (int to = 2; to < 8; to++) {
            z.owe(0, to, 999);
            z.owe(1, to, 999);
        }
        DUE.is("1 alone is below 0", z.mergers(3, 0), 0);
        DUE.is("together just none", z.mergers(3, 1), 1);
        z.bank(1, 5992);
        DUE.is("together below 0", z.mergers(3, 0), 1);
        DUE.is("so no two", z.mergers(3, 1), 0);
    }

    private static void control() {
        for (int n = 49; n <= 52; n++) {
            ToadBank x = Due.town(0, 0, 0, 0);
            x.hold(0, 1, n);
            x.hold(0, 2, 30);
            x.hold(1, 2, n - 30);
            DUE.is("by " + n, x.bankIs(0, 5), n > 50 ? 6 : 0);
            DUE.is("whoever has the others", x.hold(3, 1, 48), true);
            DUE.is("by " + n, x.bankIs(0, 5), n > 50 ? 6 : 0);
        }
        // A ring of eight, upwards and downwards: each controls all others, never itself.
        for (int step : new int[] {1, 7, 3, 5}) {
            ToadBank x = eight(0);
            for (int b = 0; b < 8; b++) {
                x.hold(b, (b + step) % 8, 51);
            }
            for (int b = 0; b < 8; b++) {
                DUE.is("all but " + b, x.bankIs(b, 5), 255 - (1 << b));
            }
            x.hold(0, step, 50);
            DUE.is("0 has none", x.bankIs(0, 5), 0);
            DUE.is("the one behind 0 has all others", x.bankIs(step, 5), 255 - (1 << step));
        }
        ToadBank seven = eight(0);
        for (int b = 0; b < 7; b++) {
            seven.hold(b, 7, 14);
            if (b > 0) {
                seven.hold(0, b, 100);
            }
        }
        DUE.is("seven small parts", seven.bankIs(0, 5), 254);
        shut(seven, 3);
        // Six parts of 14 are more than half; what 3 had is gone.
        DUE.is("without 3", seven.bankIs(0, 5), 254 - 8);
        DUE.is("3 has none", seven.bankIs(3, 5), 0);
    }

    private static void tamperedByOne() {
        for (int should : new int[] {-1, 0, 1, 499, 500, 501, 998, 999, 1000, 1001}) {
            ToadBank x = eight(0);
            x.owe(0, 7, 500);
            x.owe(0, 3, 20);
            x.owe(4, 7, 30);
            int[] sums = {20 + should, 0, 0, 0, 0, 0, 0, 20, 30, 0, 0, 0, 0, 0, 0, 30 + should};
            boolean can = should >= 0 && should <= 999;
            int other = should == 500 ? -2 : -3;
            DUE.is("from, " + should, Due.tampered(x, 0, sums), can && should != 500 ? 0 : other);
            DUE.is("to, " + should, Due.tampered(x, 1, sums), can && should != 500 ? 7 : other);
            DUE.is("what, " + should, Due.tampered(x, 2, sums), can && should != 500 ? should : other);
            DUE.is("empty then", x.count(6), 0);
            DUE.is("nothing is changed", x.owes(0, 7), 500);
        }
        for (int from = 0; from < 8; from++) {
            for (int to = 0; to < 8; to++) {
                int[] sums = new int[16];
                sums[2 * from] = 1;
                sums[2 * to + 1] = 1;
                DUE.is("from " + from, Due.tampered(eight(0), 0, sums), from == to ? -3 : from);
                DUE.is("to " + to, Due.tampered(eight(0), 1, sums), from == to ? -3 : to);
                DUE.is("should", Due.tampered(eight(0), 2, sums), from == to ? -3 : 1);
            }
        }
    }

    private static void tamperedBytes() {
        for (int what = -1; what <= 3; what++) {
            ToadBank x = Due.town(0, 0);
            boolean can = what >= 0 && what <= 2;
            x.feed(0, 0, 0, 0, 0);
            DUE.is("20 bytes", x.tampered(what), -1);
            x.feed(0, 0, 0, -1, -1);
            DUE.is("40 bytes", x.tampered(what), can ? -2 : -1);
            DUE.is("tape", x.count(6), can ? 0 : 40);
            DUE.is("no bytes", new ToadBank().tampered(what), -1);
        }
        // Two bytes are a number of 16 bits, the highest first; none is below 0.
        ToadBank x = Due.town(0, 0);
        x.feed(0x01000000, 0x00000100, 0, 0, 0);
        x.feed(0, 0, 0, 0, 0);
        DUE.is("256", x.tampered(2), 256);
        x.feed(0xffff0000, 0x0000ffff, 0, 0, 0);
        x.feed(0, 0, 0, 0, 0);
        DUE.is("65535", x.tampered(2), -3);
        // Bytes 30 and 31 are the last ones, 32 is none of them.
        x.feed(0, 0, 0, 0, 0);
        x.feed(0, 0, 0x00000001, 0, 0);
        DUE.is("the last one", x.tampered(0), -3);
        x.feed(0, 0, 0, 0, 0);
        x.feed(0, 0, 0, 0x01000000, 0);
        DUE.is("behind the last one", x.tampered(0), -2);
    }

    private static void takenByOne() {
        for (int n = -1; n <= 14; n++) {
            for (int shortage : new int[] {Integer.MIN_VALUE, -1, 0, 1, 3059, 3060, 3061, Integer.MAX_VALUE}) {
                for (int what = -1; what <= 2; what++) {
                    ToadBank x = new ToadBank();
                    x.feed(-1, -1, -1, -1, -1);
                    boolean can = n >= 1 && n <= 12 && shortage >= 0 && shortage <= 3060 && (what == 0 || what == 1);
                    boolean all = n == 12 && shortage == 3060;
                    int want = !can ? -1 : shortage == 0 ? 0 : !all ? -2 : what == 0 ? 12 : 4095;
                    DUE.is("taken " + n + " " + shortage + " " + what, x.taken(n, shortage, what), want);
                    DUE.is("tape", x.count(6), can ? 0 : 20);
                }
            }
        }
        // The fewest ahead of the least bits; of like ones the least bits.
        ToadBank x = new ToadBank();
        DUE.is("one, though higher", Due.taken(x, 3, 1, 1, 2, 3), 4);
        DUE.is("the lower one", Due.taken(x, 3, 1, 1, 3, 3), 2);
        DUE.is("the lower two", Due.taken(x, 5, 1, 4, 3, 2, 1), 6);
        DUE.is("0 is no help", Due.taken(x, 5, 1, 0, 0, 5, 0), 4);
        DUE.is("of 0 none", Due.taken(x, 0, 1, 0, 0), 0);
        DUE.is("of 0 none", Due.taken(x, 0, 0, 0, 0), 0);
        DUE.is("1 too few", Due.taken(x, 6, 0, 1, 2, 2), -2);
        DUE.is("all of them", Due.taken(x, 5, 0, 1, 2, 2), 3);
        Due.feedBytes(x, 1, 2, 4, 8);
        DUE.is("what stands behind the n is none of them", x.taken(3, 8, 0), -2);
    }

    private static void loansByOne() {
        for (int much : new int[] {-1, 0, 1, 9999, 10000}) {
            for (int hundredths : new int[] {-1, 0, 20, 21}) {
                for (int paid : new int[] {-1, 0, 1, 9999, 10000}) {
                    boolean can = much >= 1 && much <= 9999 && hundredths >= 0 && hundredths <= 20 && paid >= 1
                        && paid <= 9999;
                    DUE.is("loan " + much + " " + hundredths + " " + paid, new ToadBank().loan(much, hundredths, paid),
                        can ? monthsByHand(much, hundredths, paid) : -1);
                }
            }
        }
        for (int much = 598; much <= 602; much++) {
            DUE.is("by 1: " + much, new ToadBank().loan(much, 0, 1), much > 600 ? -2 : much);
            DUE.is("by 16: " + much, new ToadBank().loan(16 * much - 15, 0, 16), much > 600 ? -2 : much);
            DUE.is("by 16: " + much, new ToadBank().loan(16 * much, 0, 16), much > 600 ? -2 : much);
        }
        // 1 of 1 in a hundred: rounded up each month, so 1 is never enough.
        for (int much : new int[] {1, 99, 100, 101, 200, 201}) {
            int grows = (much + 99) / 100;
            DUE.is("as much as grows", new ToadBank().loan(much, 1, grows), -2);
            DUE.is("all of it", new ToadBank().loan(much, 1, much + grows), 1);
            DUE.is("1 less than all of it", new ToadBank().loan(much, 1, much + grows - 1), much == 1 ? -2 : 2);
        }
    }

    private static int monthsByHand(int much, int hundredths, int paid) {
        long left = much;
        for (int month = 1; month <= 600; month++) {
            long grows = left * hundredths;
            left += grows % 100 == 0 ? grows / 100 : grows / 100 + 1;
            left -= paid;
            if (left <= 0) {
                return month;
            }
            if (left > 100000000) {
                return -2;
            }
        }
        return -2;
    }

    private static void paymentsByOne() {
        for (int much : new int[] {-1, 0, 1, 2, 100, 9998, 9999, 10000}) {
            for (int hundredths : new int[] {-1, 0, 1, 19, 20, 21}) {
                for (int months : new int[] {-1, 0, 1, 2, 59, 60, 61}) {
                    boolean can = much >= 1 && much <= 9999 && hundredths >= 0 && hundredths <= 20 && months >= 1
                        && months <= 60;
                    int got = new ToadBank().payment(much, hundredths, months);
                    String call = "payment " + much + " " + hundredths + " " + months;
                    if (!can) {
                        DUE.is(call, got, -1);
                    } else {
                        int needed = monthsByHand(much, hundredths, got);
                        DUE.is(call + ": enough", needed >= 1 && needed <= months, true);
                        int less = got == 1 ? -2 : monthsByHand(much, hundredths, got - 1);
                        DUE.is(call + ": the least", less == -2 || less > months, true);
                    }
                }
            }
        }
    }

    /** The least row of signs with the fewest signs: compared sign by sign from the left. */
    private static void leastRow() {
        ToadBank x = new ToadBank();
        Due.code(x, 7, ".");
        Due.code(x, 6, "..");
        Due.code(x, 5, "...");
        // Four blinks: 5 7, 7 5, 6 6 have two signs each.
        DUE.is("5 7", Due.blinks(x, "....", 0) * 10 + Due.blinks(x, "....", 1), 57);
        Due.code(x, 4, ".");
        DUE.is("4 5", Due.blinks(x, "....", 0) * 10 + Due.blinks(x, "....", 1), 45);
        Due.code(x, 0, "....");
        DUE.is("0", Due.blinks(x, "....", 0), 0);
        DUE.is("one sign", Due.blinks(x, "....", 101), 1);
        DUE.is("no second one", Due.blinks(x, "....", 1), -4);
        for (int what = -1; what <= 103; what++) {
            int got = Due.blinks(x, "....", what);
            x.check(0);
            int want = what == 0 ? 0 : what >= 1 && what <= 59 ? -4 : what == 100 ? 34 : what == 101 ? 1 : -1;
            DUE.is("what " + what, got, want);
            int unread = Due.blinks(x, "-", what);
            x.check(0);
            DUE.is("unread " + what, unread, what == 100 ? 0 : want == -1 ? -1 : -2);
            int fault = Due.blinks(x, "-x", what);
            x.check(0);
            DUE.is("fault " + what, fault, want == -1 ? -1 : -1001);
        }
    }

    private static void readAtOnce() {
        String[] codes = {"-", "--", "-.", "------", "-----.", ".-----", ".", "......"};
        for (String one : codes) {
            for (String other : codes) {
                ToadBank x = new ToadBank();
                Due.code(x, 7, one);
                DUE.is(one, x.atOnce(), 1);
                Due.code(x, 0, other);
                boolean begins = one.startsWith(other) || other.startsWith(one);
                DUE.is(one + " and " + other, x.atOnce(), begins ? 0 : 1);
            }
        }
        ToadBank all = new ToadBank();
        for (int sign = 0; sign < 8; sign++) {
            String code = ((sign & 4) == 0 ? "." : "-") + ((sign & 2) == 0 ? "." : "-") + ((sign & 1) == 0 ? "." : "-");
            Due.code(all, sign, code);
            DUE.is("up to " + sign, all.atOnce(), 1);
        }
        Due.code(all, 3, ".-");
        DUE.is("one of all begins another one", all.atOnce(), 0);
    }

    private static void howOften() {
        for (int n = 0; n <= 10; n++) {
            for (int zero = -1; zero < 10; zero++) {
                int[] often = new int[12];
                for (int i = 0; i < often.length; i++) {
                    often[i] = i == zero ? 0 : 1;
                }
                ToadBank x = new ToadBank();
                Due.feedBytes(x, often);
                boolean can = n >= 2 && n <= 8;
                int[] even = {0, 0, 2, 5, 8, 12, 16, 20, 24};
                int want = !can ? -1 : zero >= 0 && zero < n ? -2 : even[n];
                DUE.is("shortest " + n + " 0 at " + zero, x.shortest(n), want);
                DUE.is("tape", x.count(6), can ? 0 : 20);
                ToadBank y = new ToadBank();
                Due.feedBytes(y, often);
                DUE.is("inOrder " + n + " 0 at " + zero, y.inOrder(n), want);
                DUE.is("tape", y.count(6), can ? 0 : 20);
            }
        }
        ToadBank x = new ToadBank();
        DUE.is("1 and 255", Due.shortest(x, 1, 255), 256);
        DUE.is("255 and 255", Due.inOrder(x, 255, 255), 510);
        DUE.is("empty", x.shortest(2) + x.inOrder(2), -2);
        // In a row of three the one at the end that is more often stands alone, never the middle one.
        DUE.is("2 1 2", Due.shortest(x, 1, 3, 1), 7);
        DUE.is("not the middle one alone", Due.inOrder(x, 1, 3, 1), 9);
        DUE.is("the last one alone", Due.inOrder(x, 1, 1, 3), 7);
        DUE.is("the first one alone", Due.inOrder(x, 3, 1, 1), 7);
    }

    private static void checkOne() {
        for (int cash : new int[] {0, 1, 254, 255, 256, 257, 511, 512, 9983, 9984, 9999}) {
            for (int sign = 0; sign < 256; sign++) {
                ToadBank x = Due.town(cash);
                DUE.is(cash + " by " + sign, Due.check(x, sign), sign == cash % 256 ? -1 : 0);
            }
        }
        for (int n = -2; n <= 10; n++) {
            ToadBank x = Due.town(1, 1, 1, 1, 1, 1, 1, 1);
            x.feed(0x01010101, 0x01010102, 0, 0, 0);
            DUE.is("check " + n, x.check(n), n < 0 || n > 8 ? -2 : n == 8 ? 7 : -1);
            DUE.is("tape", x.count(6), n < 0 || n > 8 ? 20 : 0);
            DUE.is("no bytes, " + n, Due.town(1).check(n), n == 0 ? -1 : -2);
        }
    }

    private static void counts() {
        ToadBank x = eight(1);
        for (int what = -2; what <= 20; what++) {
            int want = what == 2 || what == 3 ? 255 : what == 7 ? 1 : what >= 0 && what <= 8 ? 0 : -1;
            DUE.is("count " + what, x.count(what), want);
        }
        for (int blinks = 1; blinks <= 6; blinks++) {
            Due.code(x, 0, "......".substring(0, blinks));
            Due.code(x, 7, "......".substring(0, blinks));
            DUE.is("blinks", x.count(10) * 10 + x.count(17), blinks * 11);
            DUE.is("none besides", x.count(9) + x.count(11) + x.count(16) + x.count(18), -4);
        }
        for (int feeds = 1; feeds <= 14; feeds++) {
            DUE.is("feed", x.feed(1, 2, 3, 4, 5), feeds <= 13 ? 20 * feeds : -1);
            DUE.is("bytes", x.count(6), Math.min(260, 20 * feeds));
        }
        x.check(0);
        DUE.is("empty", x.count(6), 0);
        DUE.is("room again", x.feed(1, 2, 3, 4, 5), 20);
    }

    /** May be below 0, by that much. */
    private static void worth() {
        ToadBank x = eight(0);
        for (int b = 0; b < 7; b++) {
            x.owe(7, b, 999);
        }
        DUE.is("the least", x.bankIs(7, 4), -6993);
        DUE.is("owed", x.bankIs(0, 4), 999);
        x.bank(7, 6992);
        DUE.is("-1 is no NONE here", x.bankIs(7, 4), -1);
        x.bank(7, 6993);
        DUE.is("0", x.bankIs(7, 4), 0);
        x.bank(7, 9999);
        for (int b = 0; b < 7; b++) {
            x.owe(7, b, 0);
            x.owe(b, 7, 999);
        }
        DUE.is("the most", x.bankIs(7, 4), 16992);
        for (int b = -1; b <= 8; b++) {
            for (int what = -1; what <= 6; what++) {
                int none = what == 4 ? -1000000 : -1;
                DUE.is("not told", new ToadBank().bankIs(b, what), none);
                boolean can = b >= 0 && b <= 7 && what >= 0 && what <= 5;
                int want = what == 1 ? 1 : 0;
                DUE.is("told", eight(0).bankIs(b, what), can ? want : b >= 0 && b <= 7 ? -1 : none);
            }
        }
    }
}
