import java.lang.reflect.InvocationTargetException;
import java.lang.reflect.Method;
import java.util.Arrays;

/** Calls that are refused change nothing but the tape, where it is told; which answer is told where several fit. */
final class RefusedTest {
    private static final Due DUE = new Due();
    private static final int STATES = 5;
    private static final int[] FAR = {Integer.MIN_VALUE, Integer.MIN_VALUE + 10, -1000000, -2, -1, 0, 1, 2, 5, 7, 8,
        9, 10, 13, 17, 18, 20, 27, 28, 32, 60, 61, 100, 101, 120, 121, 240, 241, 255, 256, 600, 999, 1000, 3060, 3061,
        9999, 10000, 65535, 65536, Integer.MAX_VALUE};

    public static void main(String[] args) throws ReflectiveOperationException {
        refusedByNumbers();
        refusedByBanks();
        refusedWithTheTape();
        faultsEmptyTheTapeAlone();
        questionsChangeNothing();
        changesLeaveTheTape();
        severalFit();
        emptyOnes();
        anyArguments();
        DUE.end();
    }

    /** 0: new; 1: a few banks, one of them SHUT; 2: all at their bounds; 3: all SHUT; 4: as 1, with a full tape. */
    private static ToadBank state(int which) {
        ToadBank x = new ToadBank();
        if (which == 1 || which == 4) {
            some(x);
        } else if (which == 2) {
            full(x);
        } else if (which == 3) {
            for (int b = 0; b < 8; b++) {
                x.bank(b, b);
            }
            Due.law(x, "x(b=b)");
            x.months(1);
        }
        if (which == 1) {
            Due.feedBytes(x, Due.bytesOf("f3(b<4);w2(1=1);x(c<1)"));
        }
        if (which == 4) {
            Due.feedBytes(x, new int[260]);
        }
        return x;
    }

    private static void some(ToadBank x) {
        int[] cash = {10, 256, 0, 30, 9};
        for (int b = 0; b < cash.length; b++) {
            x.bank(b, cash[b]);
        }
        x.owe(0, 1, 12);
        x.owe(1, 2, 7);
        x.owe(2, 0, 20);
        x.owe(3, 0, 5);
        x.hold(0, 1, 60);
        x.hold(1, 2, 51);
        x.hold(3, 1, 40);
        Due.law(x, "f3(b=0);w4(1=1);q5(1=1);i1(b=2)");
        Due.code(x, 2, ".-");
        Due.code(x, 5, "-");
        x.months(1);
        x.keep();
        x.merge(3, 4);
    }

    private static void full(ToadBank x) {
        for (int i = 0; i < 20; i++) {
            x.months(60);
        }
        for (int b = 0; b < 8; b++) {
            x.bank(b, 9999);
        }
        for (int b = 0; b < 8; b++) {
            for (int to = 0; to < 8; to++) {
                x.owe(b, to, 999);
            }
            x.hold(b, (b + 1) % 8, 100);
            Due.code(x, b, "-----" + (b % 2 == 0 ? "." : "-"));
        }
        StringBuilder law = new StringBuilder("f1(1=1)");
        for (int i = 1; i < 16; i++) {
            law.append(";q1(1=1)");
        }
        Due.law(x, law.toString());
        x.seed(65535);
        x.keep();
    }

    /** All that can be seen without the tape, then what stands on it, then what was KEPT. */
    private static int[] look(ToadBank x) {
        int[] seen = new int[600];
        int n = 0;
        for (int b = 0; b < 8; b++) {
            for (int what = 0; what <= 5; what++) {
                seen[n++] = x.bankIs(b, what);
            }
            for (int to = 0; to < 8; to++) {
                seen[n++] = x.owes(b, to);
                seen[n++] = x.holds(b, to);
            }
        }
        for (int what = 0; what <= 17; what++) {
            seen[n++] = x.count(what);
        }
        for (int what = 0; what <= 3; what++) {
            seen[n++] = x.tried(7, what);
        }
        seen[n++] = x.atOnce();
        seen[n++] = x.law(7);
        seen[n++] = x.law(22);
        seen[n++] = x.law(240);
        for (int what = 0; what <= 3; what++) {
            seen[n++] = x.tried(7, what);
        }
        x.check(0);
        for (String text : new String[] {".", "-", ".-", "-.-", "-----.", "------"}) {
            seen[n++] = Due.blinks(x, text, 100);
            seen[n++] = Due.blinks(x, text, 0);
        }
        seen[n++] = x.undo() ? 1 : 0;
        for (int b = 0; b < 8; b++) {
            for (int what = 0; what <= 5; what++) {
                seen[n++] = x.bankIs(b, what);
            }
        }
        for (int what = 0; what <= 17; what++) {
            seen[n++] = x.count(what);
        }
        return seen;
    }

    private interface Call {
        int on(ToadBank x);
    }

    private static int bit(boolean answer) {
        return answer ? 1 : 0;
    }

    /** In each state the call answers so, and then all is as if it had never been. */
    private static void isRefused(String name, int want, Call call) {
        for (int which = 0; which < STATES; which++) {
            isRefused(which, name, want, call);
        }
    }

    private static void isRefused(int which, String name, int want, Call call) {
        ToadBank x = state(which);
        DUE.is(name + " in state " + which, call.on(x), want);
        DUE.is(name + " changes nothing in state " + which, Arrays.equals(look(x), look(state(which))), true);
    }

    private static void refusedByNumbers() {
        for (int n : new int[] {Integer.MIN_VALUE, -1, 10000, Integer.MAX_VALUE}) {
            isRefused("bank 0 " + n, 0, x -> bit(x.bank(0, n)));
            isRefused("blow 0 " + n, -1, x -> x.blow(0, n));
        }
        for (int n : new int[] {Integer.MIN_VALUE, -1, 1000, Integer.MAX_VALUE}) {
            isRefused("owe 0 1 " + n, 0, x -> bit(x.owe(0, 1, n)));
        }
        for (int n : new int[] {Integer.MIN_VALUE, -1, 101, Integer.MAX_VALUE}) {
            isRefused("hold 2 3 " + n, 0, x -> bit(x.hold(2, 3, n)));
        }
        for (int n : new int[] {Integer.MIN_VALUE, -1, 0, 61, Integer.MAX_VALUE}) {
            isRefused("months " + n, -1, x -> x.months(n));
            isRefused("tried " + n, -1, x -> x.tried(n, 0));
        }
        for (int n : new int[] {Integer.MIN_VALUE, -1, 65536, Integer.MAX_VALUE}) {
            isRefused("seed " + n, 0, x -> bit(x.seed(n)));
        }
        for (int what : new int[] {Integer.MIN_VALUE, -1, 2, Integer.MAX_VALUE}) {
            isRefused("keystone " + what, -1, x -> x.keystone(what));
            isRefused("settled " + what, -1, x -> x.settled(what));
            isRefused("ring 0 " + what, -1, x -> x.ring(0, what));
            isRefused("road 0 1 " + what, -1, x -> x.road(0, 1, what));
            isRefused("mergers 3 " + what, -1, x -> x.mergers(3, what));
        }
        isRefused("hold 4 1 1", 0, x -> bit(x.hold(4, 1, 1)));
        isRefused(1, "100 are had", 0, x -> bit(x.hold(2, 1, 1)));
        isRefused(2, "100 are had", 0, x -> bit(x.hold(2, 1, 1)));
        isRefused(4, "feed", -1, x -> x.feed(1, 2, 3, 4, 5));
        isRefused(0, "none was kept", 0, x -> bit(x.undo()));
        isRefused(3, "none was kept", 0, x -> bit(x.undo()));
    }

    private static void refusedByBanks() {
        for (int b : new int[] {Integer.MIN_VALUE, -1, 8, 32, Integer.MAX_VALUE}) {
            isRefused("bank " + b, 0, x -> bit(x.bank(b, 5)));
        }
        // 4 is SHUT in state 1, 5 is not told there; in state 0 none is told, in state 3 all are SHUT.
        for (int b : new int[] {-1, 4, 5, 8}) {
            int states = b == 4 || b == 5 ? 2 : STATES;
            for (int which = 0; which < states; which++) {
                isRefused(which, "owe " + b, 0, x -> bit(x.owe(b, 0, 5)));
                isRefused(which, "owe to " + b, 0, x -> bit(x.owe(0, b, 5)));
                isRefused(which, "hold " + b, 0, x -> bit(x.hold(b, 0, 5)));
                isRefused(which, "hold of " + b, 0, x -> bit(x.hold(0, b, 5)));
                isRefused(which, "merge " + b, 0, x -> bit(x.merge(b, 0)));
                isRefused(which, "merge with " + b, 0, x -> bit(x.merge(0, b)));
                isRefused(which, "blow " + b, -1, x -> x.blow(b, 5));
                isRefused(which, "leastBlow " + b, -1, x -> x.leastBlow(b, 0));
                isRefused(which, "leastBlow to " + b, -1, x -> x.leastBlow(0, b));
                isRefused(which, "help " + b, -1, x -> x.help(b));
            }
        }
        for (int which = 0; which < STATES; which++) {
            for (int b = 0; b < 8; b++) {
                int same = b;
                isRefused(which, "owe itself", 0, x -> bit(x.owe(same, same, 5)));
                isRefused(which, "hold itself", 0, x -> bit(x.hold(same, same, 5)));
                isRefused(which, "merge itself", 0, x -> bit(x.merge(same, same)));
                isRefused(which, "road to itself", -1, x -> x.road(same, same, 0));
                isRefused(which, "owes itself", -1, x -> x.owes(same, same));
                isRefused(which, "holds itself", -1, x -> x.holds(same, same));
            }
        }
        for (int b : new int[] {5, 6, 7}) {
            isRefused(1, "falls " + b, -1, x -> x.falls(b));
            isRefused(1, "ring " + b, -1, x -> x.ring(b, 0));
            isRefused(1, "road " + b, -1, x -> x.road(b, 0, 0));
            isRefused(1, "road to " + b, -1, x -> x.road(0, b, 0));
            isRefused(1, "owes " + b, -1, x -> x.owes(b, 0));
            isRefused(1, "owes to " + b, -1, x -> x.owes(0, b));
            isRefused(1, "holds " + b, -1, x -> x.holds(b, 0));
            isRefused(1, "holds of " + b, -1, x -> x.holds(0, b));
            isRefused(1, "tried " + b, -1, x -> x.tried(1, 10 + b));
            isRefused(1, "pays " + b, -1, x -> x.cleared(10 + b));
            isRefused(1, "gets " + b, -1, x -> x.cleared(20 + b));
            isRefused(1, "is " + b, -1, x -> x.bankIs(b, 0));
            isRefused(1, "worth " + b, -1000000, x -> x.bankIs(b, 4));
            isRefused(1, "mergers with " + b, -1, x -> x.mergers(1 | 1 << b, 0));
        }
        isRefused(1, "mergers with a shut one", -1, x -> x.mergers(17, 0));
        isRefused(1, "mergers of one", -1, x -> x.mergers(1, 0));
        isRefused(1, "mergers of none", -1, x -> x.mergers(0, 0));
    }

    /** NONE: no such n, it has not so many (the tape stays). */
    private static void refusedWithTheTape() {
        for (int n : new int[] {Integer.MIN_VALUE, -1, 0, 261, Integer.MAX_VALUE}) {
            isRefused("law " + n, -1, x -> x.law(n));
            isRefused("ledger " + n, -1, x -> x.ledger(n));
            isRefused("taken " + n, -1, x -> x.taken(n, 1, 0));
            isRefused("code " + n, -1, x -> x.code(0, n));
            isRefused("blinks " + n, -1, x -> x.blinks(n, 100));
            isRefused("shortest " + n, -1, x -> x.shortest(n));
            isRefused("inOrder " + n, -1, x -> x.inOrder(n));
            if (n != 0) {
                isRefused("check " + n, -2, x -> x.check(n));
            }
        }
        isRefused("law 241", -1, x -> x.law(241));
        isRefused("ledger 121", -1, x -> x.ledger(121));
        isRefused("taken 13", -1, x -> x.taken(13, 1, 0));
        isRefused("code 7", -1, x -> x.code(0, 7));
        isRefused("blinks 61", -1, x -> x.blinks(61, 100));
        isRefused("shortest 9", -1, x -> x.shortest(9));
        isRefused("shortest 1", -1, x -> x.shortest(1));
        isRefused("inOrder 9", -1, x -> x.inOrder(9));
        isRefused("inOrder 1", -1, x -> x.inOrder(1));
        isRefused("check 9", -2, x -> x.check(9));
        for (int what : new int[] {Integer.MIN_VALUE, -1, 3, Integer.MAX_VALUE}) {
            isRefused("tampered " + what, -1, x -> x.tampered(what));
            isRefused("taken, what " + (what + 1), -1, x -> x.taken(1, 1, what == 3 ? 2 : what));
        }
        for (int shortage : new int[] {Integer.MIN_VALUE, -1, 3061, Integer.MAX_VALUE}) {
            isRefused("taken, shortage " + shortage, -1, x -> x.taken(1, shortage, 0));
        }
        for (int sign : new int[] {Integer.MIN_VALUE, -1, 8, Integer.MAX_VALUE}) {
            isRefused("code of " + sign, -1, x -> x.code(sign, 1));
        }
        for (int what : new int[] {Integer.MIN_VALUE, -1, 60, 99, 102, Integer.MAX_VALUE}) {
            isRefused("blinks, what " + what, -1, x -> x.blinks(1, what));
        }
        for (int which : new int[] {0, 2, 3}) {
            isRefused(which, "law of an empty tape", -1, x -> x.law(1));
            isRefused(which, "ledger of an empty tape", -1, x -> x.ledger(1));
            isRefused(which, "tampered of an empty tape", -1, x -> x.tampered(0));
            isRefused(which, "taken of an empty tape", -1, x -> x.taken(1, 0, 0));
            isRefused(which, "code of an empty tape", -1, x -> x.code(0, 1));
            isRefused(which, "blinks of an empty tape", -1, x -> x.blinks(1, 100));
            isRefused(which, "shortest of an empty tape", -1, x -> x.shortest(2));
            isRefused(which, "inOrder of an empty tape", -1, x -> x.inOrder(2));
            isRefused(which, "check of an empty tape", -2, x -> x.check(1));
        }
        // State 1 has 40 bytes.
        isRefused(1, "law 41", -1, x -> x.law(41));
        isRefused(1, "ledger 41", -1, x -> x.ledger(41));
        isRefused(1, "blinks 41", -1, x -> x.blinks(41, 100));
    }

    /** A FAULT, -2, -3, -4 and whatever is only asked: the tape is empty then, nothing else is changed. */
    private static void isEmptied(String name, int want, String text, Call call) {
        for (int which = 0; which < STATES; which++) {
            ToadBank x = state(which);
            ToadBank twin = state(which);
            x.check(0);
            twin.check(0);
            Due.feedBytes(x, Due.bytesOf(text));
            DUE.is(name + " in state " + which, call.on(x), want);
            DUE.is(name + " empties the tape", x.count(6), 0);
            DUE.is(name + " changes nothing else", Arrays.equals(look(x), look(twin)), true);
        }
    }

    private static void faultsEmptyTheTapeAlone() {
        isEmptied("law 1", -1000, "z", x -> x.law(1));
        isEmptied("law 1, the end", -1013, "f1(1=1);x(1=1", x -> x.law(13));
        isEmptied("law 2", -2006, "f123456(1=1)", x -> x.law(12));
        isEmptied("law 5", -5007, "f[[[[[[[1", x -> x.law(9));
        isEmptied("ledger 1", -1000, ";", x -> x.ledger(1));
        isEmptied("code", -1002, "--x", x -> x.code(2, 3));
        isEmptied("code of one not told", -1000, "x", x -> x.code(7, 1));
        isEmptied("blinks", -1001, "-x", x -> x.blinks(2, 0));
        isEmptied("no sum", -2, "ab", x -> x.taken(2, 1, 0));
        isEmptied("a sum", 1, "ab", x -> x.taken(2, 97, 0));
        isEmptied("one is 0", -2, "a" + (char) 0, x -> x.shortest(2));
        isEmptied("shortest", 195, "ab", x -> x.shortest(2));
        isEmptied("one is 0", -2, (char) 0 + "b", x -> x.inOrder(2));
        isEmptied("inOrder", 195, "ab", x -> x.inOrder(2));
        isEmptied("check of none", -1, "ab", x -> x.check(0));
        isEmptied("check", 0, "}", x -> x.check(1));
        isEmptied("not by one DEBT", -3, "}}}}}}}}}}}}}}}}}}}}}}}}}}}}}}}}", x -> x.tampered(0));
    }

    /** Where so many are told that all can be asked. */
    private static void questionsChangeNothing() {
        for (int which = 0; which < STATES; which++) {
            ToadBank x = state(which);
            for (int i = 0; i < 8; i++) {
                x.tried(60, i % 4);
                x.cleared(i % 2);
                x.cleared(10 + i);
                x.cleared(20 + i);
                x.falls(i);
                x.keystone(i % 2);
                x.blow(i, 9999);
                x.leastBlow(i, (i + 1) % 8);
                x.help(i);
                x.setOff();
                x.settled(i % 2);
                x.ring(i, i % 2);
                x.road(i, (i + 1) % 8, i % 2);
                x.mergers(255 - i, i % 2);
                x.loan(9999, i, 200);
                x.payment(9999, i, 30);
                x.atOnce();
                x.count(i);
            }
            DUE.is("only asked, state " + which, Arrays.equals(look(x), look(state(which))), true);
        }
    }

    /** Calls that change the town, but read no bytes, leave the tape, THE LAW and CODES. */
    private static void changesLeaveTheTape() {
        Call[] changes = {x -> bit(x.bank(1, 77)), x -> bit(x.bank(4, 5)), x -> bit(x.owe(0, 1, 3)),
            x -> bit(x.hold(3, 0, 9)), x -> x.months(2) >= 0 ? 1 : 0, x -> bit(x.merge(0, 3)), x -> bit(x.seed(9)),
            x -> x.keep() >= 0 ? 1 : 0, x -> bit(x.undo())};
        for (int i = 0; i < changes.length; i++) {
            ToadBank x = state(1);
            DUE.is("change " + i, changes[i].on(x), 1);
            DUE.is("bytes behind change " + i, x.count(6), 40);
            DUE.is("rules behind change " + i, x.count(5), 4);
            DUE.is("codes behind change " + i, x.count(4) * 100 + x.count(12) * 10 + x.count(15), 3621);
            DUE.is("the text behind change " + i, x.law(22), 3);
        }
    }

    private static void severalFit() {
        // NONE ahead of a FAULT, of -2, -3, -4; the tape shows it by staying.
        isRefused("NONE, text wrong", -1, x -> x.law(261));
        isRefused("NONE, no such what, text wrong", -1, x -> x.blinks(1, 60));
        isRefused(4, "NONE, no such sign, text wrong", -1, x -> x.code(8, 1));
        isRefused(4, "NONE, no such what, none comes to it", -1, x -> x.taken(2, 5, 2));
        isRefused(4, "NONE, no such shortage, none comes to it", -1, x -> x.taken(2, 3061, 0));
        isRefused(4, "NONE, no such n, one is 0", -1, x -> x.shortest(9));
        isRefused(4, "NONE, no such n, one is 0", -1, x -> x.inOrder(1));
        isRefused(4, "NONE, no such what, nothing is wrong", -1, x -> x.tampered(3));
        isRefused("NONE, never paid off", -1, x -> x.loan(9999, 21, 1));
        isRefused(0, "NONE, none is open", -1, x -> x.keystone(2));
        isRefused(3, "NONE, none is open", -1, x -> x.keystone(-1));
        isRefused(1, "NONE, no ring", -1, x -> x.ring(4, 2));
        isRefused(1, "NONE, no road", -1, x -> x.road(4, 0, 2));
        isRefused(1, "NONE, by none", -1, x -> x.leastBlow(4, 1));
        isRefused(1, "NONE, by none", -1, x -> x.help(4));
        isRefused(0, "-1000000, no such bank", -1000000, x -> x.bankIs(0, 4));
        isRefused(0, "-2 ahead of right", -2, x -> x.check(1));
        // A FAULT ahead of -2 and -4; -2 ahead of -4.
        isEmptied("FAULT, none can be read", -1001, "-x", x -> x.blinks(2, 101));
        isEmptied("FAULT, no such place", -1001, ".x", x -> x.blinks(2, 59));
        ToadBank x = new ToadBank();
        DUE.is("-2, no such place", Due.blinks(x, ".", 59), -2);
        Due.code(x, 0, ".");
        DUE.is("-4", Due.blinks(x, ".", 59), -4);
        DUE.is("-2, no such place", Due.blinks(x, ".-", 59), -2);
        // The FAULT that is told is the first one from the left.
        DUE.is("2 ahead of 1", Due.law(x, "f123456z"), -2006);
        DUE.is("1 ahead of 2", Due.law(x, "fz123456"), -1001);
        DUE.is("1 ahead of 5", Due.law(x, "fz[[[[[[[1"), -1001);
        DUE.is("5 ahead of 1", Due.law(x, "f[[[[[[[z"), -5007);
        DUE.is("1 of two", Due.law(x, "f1(1=1)z(z"), -1007);
        DUE.is("the end", Due.law(x, "f1(1=1"), -1006);
    }

    private static void emptyOnes() {
        ToadBank x = new ToadBank();
        DUE.is("keep nothing", x.keep(), 0);
        DUE.is("undo it", x.undo(), true);
        DUE.is("undo it again", x.undo(), true);
        DUE.is("months of none", x.months(60), 0);
        DUE.is("no draws", x.count(7), 1);
        DUE.is("the month", x.count(0), 60);
        DUE.is("setOff", x.setOff(), 0);
        DUE.is("atOnce", x.atOnce(), 1);
        DUE.is("tried", x.tried(60, 0) + x.tried(60, 1) + x.tried(60, 2) + x.tried(60, 3), 0);
        ToadBank shut = state(3);
        DUE.is("told", shut.count(2), 255);
        DUE.is("open", shut.count(3), 0);
        DUE.is("fallen", shut.count(1), 8);
        DUE.is("keystone", shut.keystone(0) * 10 + shut.keystone(1), -20);
        DUE.is("settled", shut.settled(0) + shut.settled(1), 0);
        DUE.is("no more fall", shut.months(60), 0);
        int drawn = shut.count(7);
        shut.months(60);
        DUE.is("shut ones draw no more", shut.count(7), drawn);
        for (int b = 0; b < 8; b++) {
            DUE.is("ring", shut.ring(b, 0), -2);
            DUE.is("road", shut.road(b, (b + 1) % 8, 0), -2);
            DUE.is("falls", shut.falls(b), -2);
            DUE.is("tried", shut.tried(1, 10 + b), 0);
            DUE.is("check", shut.bankIs(b, 0), 0);
        }
    }

    /** No call may throw or fail to end, for any arguments in any state. */
    private static void anyArguments() throws ReflectiveOperationException {
        for (Method method : ToadBank.class.getDeclaredMethods()) {
            if (!java.lang.reflect.Modifier.isPublic(method.getModifiers())) {
                continue;
            }
            int many = method.getParameterCount();
            int runs = 1;
            for (int i = 0; i < Math.min(many, 3); i++) {
                runs *= i < 2 ? FAR.length : 9;
            }
            for (int which = 0; which < STATES; which++) {
                ToadBank x = state(which);
                for (int run = 0; run < runs; run++) {
                    x = run % 200 == 199 ? state(which) : x;
                    call(method, x, run, many);
                }
            }
        }
    }

    private static void call(Method method, ToadBank x, int run, int many) throws ReflectiveOperationException {
        Object[] args = new Object[many];
        int left = run;
        for (int i = 0; i < many; i++) {
            int choice = i < 2 ? left % FAR.length : left % 9 * (FAR.length - 1) / 8;
            args[i] = FAR[choice];
            left /= i < 2 ? FAR.length : 9;
        }
        try {
            method.invoke(x, args);
        } catch (InvocationTargetException thrown) {
            DUE.is(method.getName() + Arrays.toString(args) + " throws " + thrown.getCause(), true, false);
        }
    }
}
