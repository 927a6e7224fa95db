import java.util.Random;

/** Runs of drawn calls, the same ones each time, on ToadBank and on the Model. */
final class RandomRunsTest {
    private static final int RUNS = 400;
    private static final int CALLS = 512;
    private static final int[] EDGES = {-1, -2, Integer.MIN_VALUE, Integer.MAX_VALUE, 8, 9, 10, 18, 19, 28, 60, 61,
        99, 100, 101, 102, 240, 241, 999, 1000, 3060, 3061, 9999, 10000, 65535, 65536, Integer.MIN_VALUE + 10};

    private final Random random;
    private final Due due;
    private final ToadBank bank = new ToadBank();
    private final Model model = new Model();
    private final StringBuilder story = new StringBuilder();
    private final int flavour;

    private RandomRunsTest(long seed, Due due) {
        random = new Random(seed);
        this.due = due;
        flavour = random.nextInt(4);
    }

    public static void main(String[] args) {
        Due due = new Due();
        for (int run = 0; run < RUNS; run++) {
            new RandomRunsTest(1000 + run, due).run(run);
        }
        due.end();
    }

    private void run(int run) {
        if (random.nextInt(10) > 0) {
            for (int b = 0; b < 8; b++) {
                if (random.nextInt(8) > 0) {
                    int cash = cash();
                    is(run, "bank " + b + " " + cash, bank.bank(b, cash), model.bank(b, cash));
                }
            }
            for (int i = random.nextInt(30); i > 0; i--) {
                someDebt(run);
            }
        }
        for (int call = 0; call < CALLS; call++) {
            oneCall(run);
            if (call % 16 == 0) {
                compareAll(run);
            }
        }
        compareAll(run);
    }

    private void is(int run, String call, boolean got, boolean want) {
        is(run, call, got ? 1 : 0, want ? 1 : 0);
    }

    private void is(int run, String call, int got, int want) {
        story.append(call).append(" -> ").append(want).append('\n');
        due.is("run " + run + ": " + call, got, want);
        if (got != want) {
            System.out.println(story.substring(Math.max(0, story.length() - 3000)));
            System.exit(1);
        }
    }

    // ---- what is drawn

    private boolean rarely() {
        return random.nextInt(12) == 0;
    }

    private int number(int low, int high) {
        if (rarely()) {
            return random.nextBoolean() ? (random.nextBoolean() ? low - 1 : high + 1)
                : EDGES[random.nextInt(EDGES.length)];
        }
        if (random.nextInt(10) == 0) {
            return random.nextBoolean() ? low : high;
        }
        return low + random.nextInt(high - low + 1);
    }

    private int b() {
        return number(0, 7);
    }

    private int cash() {
        switch (flavour) {
            case 0:
                return number(0, 60);
            case 1:
                return number(0, 9999);
            case 2:
                return number(0, 400);
            default:
                return random.nextBoolean() ? 0 : number(0, 30);
        }
    }

    private int debt() {
        switch (flavour) {
            case 0:
                return number(0, 30);
            case 1:
                return number(0, 999);
            case 2:
                return random.nextInt(3) == 0 ? 0 : number(0, 200);
            default:
                return number(0, 12);
        }
    }

    private void someDebt(int run) {
        int b = b();
        int to = b();
        int n = debt();
        is(run, "owe " + b + " " + to + " " + n, bank.owe(b, to, n), model.owe(b, to, n));
    }

    private static String pick(Random random, String... of) {
        return of[random.nextInt(of.length)];
    }

    private String digits(int most) {
        StringBuilder text = new StringBuilder();
        int many = 1 + random.nextInt(most);
        for (int i = 0; i < many; i++) {
            text.append(random.nextInt(10));
        }
        return text.toString();
    }

    private String factor(int depth) {
        int kind = random.nextInt(7);
        if (kind == 0 && depth > 0) {
            return "[" + sum(depth - 1) + "]";
        }
        if (kind < 4) {
            return pick(random, "b", "c", "o", "g", "e", "d", "m");
        }
        return digits(random.nextInt(6) == 0 ? 5 : 2);
    }

    private String term(int depth) {
        StringBuilder text = new StringBuilder(factor(depth));
        while (random.nextInt(4) == 0) {
            text.append(pick(random, "*", "/", "%")).append(factor(depth));
        }
        return text.toString();
    }

    private String sum(int depth) {
        StringBuilder text = new StringBuilder(term(depth));
        while (random.nextInt(4) == 0) {
            text.append(pick(random, "+", "-")).append(term(depth));
        }
        return text.toString();
    }

    private String test(int depth) {
        int kind = random.nextInt(8);
        if (kind == 0 && depth > 0) {
            return "!" + test(depth - 1);
        }
        if (kind == 1 && depth > 0) {
            return "(" + either(depth - 1) + ")";
        }
        return sum(depth) + pick(random, "<", ">", "=") + sum(depth);
    }

    private String either(int depth) {
        StringBuilder text = new StringBuilder(test(depth));
        while (random.nextInt(3) == 0) {
            text.append(pick(random, "&", "|")).append(test(depth));
        }
        return text.toString();
    }

    private String law() {
        StringBuilder text = new StringBuilder();
        int rules = 1 + random.nextInt(random.nextInt(10) == 0 ? 20 : 6);
        for (int i = 0; i < rules; i++) {
            text.append(i == 0 ? "" : ";");
            String letter = pick(random, "f", "w", "q", "i", "x", "f", "w", "q", "i");
            int depth = random.nextInt(8) == 0 ? 8 : 3;
            text.append(letter);
            if (!letter.equals("x")) {
                text.append(random.nextBoolean() ? digits(2) : sum(depth));
            }
            String when = letter.equals("x") ? "c<" + random.nextInt(9) + "&" + either(1) : either(depth);
            text.append("(").append(random.nextInt(3) == 0 ? "b=b" : when).append(")");
        }
        return text.toString();
    }

    private String ledger() {
        StringBuilder text = new StringBuilder();
        int lines = 1 + random.nextInt(random.nextInt(6) == 0 ? 24 : 4);
        for (int i = 0; i < lines; i++) {
            text.append(i == 0 ? "" : ";").append((char) ('a' + random.nextInt(8)));
            String kind = pick(random, ">", "!", "+", "-", "+");
            text.append(kind);
            if (kind.equals(">") || kind.equals("!")) {
                text.append((char) ('a' + random.nextInt(8))).append(':');
            }
            text.append(digits(random.nextInt(5) == 0 ? 3 : 1));
        }
        return text.toString();
    }

    private String spoil(String text, String signs) {
        StringBuilder spoilt = new StringBuilder(text);
        int at = random.nextInt(text.length());
        char sign = random.nextInt(8) == 0 ? (char) random.nextInt(256) : signs.charAt(random.nextInt(signs.length()));
        switch (random.nextInt(4)) {
            case 0:
                spoilt.setCharAt(at, sign);
                break;
            case 1:
                spoilt.insert(at, sign);
                break;
            case 2:
                spoilt.deleteCharAt(at);
                break;
            default:
                spoilt.setLength(at + 1);
                break;
        }
        return spoilt.length() == 0 ? text : spoilt.toString();
    }

    // ---- calls

    private boolean feed(int run, int... bytes) {
        while (model.count(6) > 0 && !rarely()) {
            is(run, "check 0", bank.check(0), model.check(0));
        }
        for (int start = 0; start < bytes.length; start += 20) {
            int[] w = new int[5];
            for (int i = 0; i < 20; i++) {
                int sign = start + i < bytes.length ? bytes[start + i] : random.nextInt(256);
                w[i / 4] = w[i / 4] << 8 | sign & 255;
            }
            int got = bank.feed(w[0], w[1], w[2], w[3], w[4]);
            is(run, "feed " + w[0] + " " + w[1] + " " + w[2] + " " + w[3] + " " + w[4], got,
                model.feed(w[0], w[1], w[2], w[3], w[4]));
        }
        return true;
    }

    private int length(int most) {
        return rarely() ? number(0, most) : most;
    }

    private void oneCall(int run) {
        int kind = random.nextInt(60);
        if (kind < 14) {
            changeBanks(run, kind);
        } else if (kind < 24) {
            readText(run, kind);
        } else if (kind < 34) {
            askClearing(run, kind);
        } else if (kind < 44) {
            askDebts(run, kind);
        } else {
            askRest(run, kind);
        }
    }

    private void changeBanks(int run, int kind) {
        int a = b();
        int b = b();
        int n;
        switch (kind) {
            case 0: case 1: case 2:
                n = cash();
                is(run, "bank " + a + " " + n, bank.bank(a, n), model.bank(a, n));
                break;
            case 3: case 4: case 5: case 6:
                someDebt(run);
                break;
            case 7: case 8: case 9:
                n = random.nextInt(3) == 0 ? number(0, 100) : number(0, 40);
                is(run, "hold " + a + " " + b + " " + n, bank.hold(a, b, n), model.hold(a, b, n));
                break;
            case 10:
                n = random.nextInt(4) == 0 ? number(1, 60) : number(1, 3);
                is(run, "months " + n, bank.months(n), model.months(n));
                break;
            case 11:
                if (random.nextInt(4) == 0) {
                    is(run, "merge " + a + " " + b, bank.merge(a, b), model.merge(a, b));
                }
                break;
            case 12:
                n = number(0, 65535);
                is(run, "seed " + n, bank.seed(n), model.seed(n));
                break;
            default:
                if (random.nextBoolean()) {
                    is(run, "keep", bank.keep(), model.keep());
                } else {
                    is(run, "undo", bank.undo(), model.undo());
                }
                break;
        }
    }

    private void readText(int run, int kind) {
        String text;
        int n;
        if (kind < 17) {
            text = law();
            text = random.nextInt(3) == 0 ? spoil(text, "fwqix()[]!&|<>=+-*/%0123456789bcogedm;;") : text;
            text = text.length() > 240 ? text.substring(0, 240) : text;
            feed(run, Due.bytesOf(text));
            n = length(text.length());
            is(run, "law " + n + " " + text, bank.law(n), model.law(n));
        } else if (kind < 20) {
            text = ledger();
            text = random.nextInt(3) == 0 ? spoil(text, "abcdefgh+->!:;0123456789i") : text;
            text = text.length() > 120 ? text.substring(0, 120) : text;
            feed(run, Due.bytesOf(text));
            n = length(text.length());
            is(run, "ledger " + n + " " + text, bank.ledger(n), model.ledger(n));
        } else if (kind < 22) {
            text = dots(1 + random.nextInt(random.nextInt(3) == 0 ? 6 : 3));
            int sign = b();
            feed(run, Due.bytesOf(text));
            n = length(text.length());
            is(run, "code " + sign + " " + n + " " + text, bank.code(sign, n), model.code(sign, n));
        } else {
            text = dots(1 + random.nextInt(random.nextInt(3) == 0 ? 60 : 12));
            feed(run, Due.bytesOf(text));
            n = length(text.length());
            int what = random.nextInt(3) == 0 ? number(0, 59) : random.nextBoolean() ? number(0, 4) : number(100, 101);
            is(run, "blinks " + n + " " + what + " " + text, bank.blinks(n, what), model.blinks(n, what));
        }
    }

    private String dots(int n) {
        StringBuilder text = new StringBuilder();
        int share = random.nextInt(3);
        for (int i = 0; i < n; i++) {
            text.append(random.nextInt(3) < share ? '-' : '.');
        }
        return rarely() ? spoil(text.toString(), ".- a") : text.toString();
    }

    private void askClearing(int run, int kind) {
        int a = b();
        int b = b();
        int what = number(0, 1);
        switch (kind) {
            case 24: case 25: case 26:
                what = random.nextInt(3) == 0 ? what : random.nextBoolean() ? number(10, 17) : number(20, 27);
                is(run, "cleared " + what, bank.cleared(what), model.cleared(what));
                break;
            case 27:
                is(run, "falls " + a, bank.falls(a), model.falls(a));
                break;
            case 28:
                is(run, "keystone " + what, bank.keystone(what), model.keystone(what));
                break;
            case 29: case 30:
                int much = cash();
                is(run, "blow " + a + " " + much, bank.blow(a, much), model.blow(a, much));
                break;
            case 31: case 32:
                is(run, "leastBlow " + a + " " + b, bank.leastBlow(a, b), model.leastBlow(a, b));
                break;
            default:
                is(run, "help " + a, bank.help(a), model.help(a));
                break;
        }
    }

    private void askDebts(int run, int kind) {
        int a = b();
        int b = b();
        int what = number(0, 1);
        switch (kind) {
            case 34:
                is(run, "setOff", bank.setOff(), model.setOff());
                break;
            case 35:
                is(run, "settled " + what, bank.settled(what), model.settled(what));
                break;
            case 36: case 37:
                is(run, "ring " + a + " " + what, bank.ring(a, what), model.ring(a, what));
                break;
            case 38: case 39:
                is(run, "road " + a + " " + b + " " + what, bank.road(a, b, what), model.road(a, b, what));
                break;
            case 40: case 41:
                int banks = random.nextBoolean() ? model.count(3) & random.nextInt(256) : number(0, 255);
                is(run, "mergers " + banks + " " + what, bank.mergers(banks, what), model.mergers(banks, what));
                break;
            default:
                askTampered(run);
                break;
        }
    }

    private void askTampered(int run) {
        int[] sums = new int[16];
        for (int b = 0; b < 8; b++) {
            sums[2 * b] = Math.max(0, model.bankIs(b, 2));
            sums[2 * b + 1] = Math.max(0, model.bankIs(b, 3));
        }
        int from = random.nextInt(8);
        int to = random.nextInt(8);
        int more = random.nextInt(5) == 0 ? 0 : random.nextInt(random.nextBoolean() ? 60 : 1200) - 20;
        sums[2 * from] = Math.max(0, sums[2 * from] + more);
        sums[2 * to + 1] = Math.max(0, sums[2 * to + 1] + more + (rarely() ? 1 : 0));
        if (rarely()) {
            sums[random.nextInt(16)] += 1;
        }
        int[] bytes = new int[32];
        for (int i = 0; i < 16; i++) {
            bytes[2 * i] = sums[i] >> 8;
            bytes[2 * i + 1] = sums[i] & 255;
        }
        feed(run, bytes);
        int what = number(0, 2);
        is(run, "tampered " + what, bank.tampered(what), model.tampered(what));
    }

    private void askRest(int run, int kind) {
        int a = b();
        int b = b();
        int n;
        int what;
        switch (kind) {
            case 44: case 45:
                n = random.nextInt(3) == 0 ? number(1, 60) : number(1, 4);
                what = random.nextBoolean() ? number(0, 3) : number(10, 17);
                is(run, "tried " + n + " " + what, bank.tried(n, what), model.tried(n, what));
                break;
            case 46: case 47:
                what = number(0, 5);
                is(run, "bankIs " + a + " " + what, bank.bankIs(a, what), model.bankIs(a, what));
                break;
            case 48:
                is(run, "owes " + a + " " + b, bank.owes(a, b), model.owes(a, b));
                break;
            case 49:
                is(run, "holds " + a + " " + b, bank.holds(a, b), model.holds(a, b));
                break;
            case 50:
                askTaken(run);
                break;
            case 51: case 52:
                askLoan(run);
                break;
            case 53:
                is(run, "atOnce", bank.atOnce(), model.atOnce());
                break;
            case 54: case 55:
                askShortest(run, kind == 54);
                break;
            case 56: case 57:
                askCheck(run);
                break;
            case 58:
                what = number(0, 17);
                is(run, "count " + what, bank.count(what), model.count(what));
                break;
            default:
                feed(run, random.nextInt(256), random.nextInt(256));
                break;
        }
    }

    private void askTaken(int run) {
        int[] sums = new int[1 + random.nextInt(12)];
        int bound = random.nextBoolean() ? 256 : 12;
        int all = 0;
        for (int i = 0; i < sums.length; i++) {
            sums[i] = random.nextInt(bound);
            all += random.nextBoolean() ? sums[i] : 0;
        }
        feed(run, sums);
        int n = length(sums.length);
        int shortage = random.nextInt(3) > 0 ? all : number(0, 3060);
        int what = number(0, 1);
        is(run, "taken " + n + " " + shortage + " " + what, bank.taken(n, shortage, what),
            model.taken(n, shortage, what));
    }

    private void askLoan(int run) {
        int much = number(1, 9999);
        int hundredths = number(0, 20);
        int n = random.nextBoolean() ? number(1, 60) : number(1, 9999);
        if (random.nextBoolean()) {
            n = random.nextBoolean() ? number(1, 9999) : much / (5 + random.nextInt(60));
            is(run, "loan " + much + " " + hundredths + " " + n, bank.loan(much, hundredths, n),
                model.loan(much, hundredths, n));
        } else {
            is(run, "payment " + much + " " + hundredths + " " + n, bank.payment(much, hundredths, n),
                model.payment(much, hundredths, n));
        }
    }

    private void askShortest(int run, boolean inOrder) {
        int[] often = new int[2 + random.nextInt(7)];
        int bound = random.nextBoolean() ? 255 : 20;
        for (int i = 0; i < often.length; i++) {
            often[i] = random.nextInt(60) == 0 ? 0 : 1 + random.nextInt(bound);
            if (flavour == 1) {
                often[i] = Math.min(255, 1 + (1 << i));
            }
        }
        feed(run, often);
        int n = length(often.length);
        if (inOrder) {
            is(run, "inOrder " + n, bank.inOrder(n), model.inOrder(n));
        } else {
            is(run, "shortest " + n, bank.shortest(n), model.shortest(n));
        }
    }

    private void askCheck(int run) {
        int[] bytes = new int[8];
        for (int b = 0; b < 8; b++) {
            bytes[b] = Math.max(0, model.bankIs(b, 0)) + (random.nextInt(20) == 0 ? 1 : 0);
        }
        feed(run, bytes);
        int n = number(0, 8);
        is(run, "check " + n, bank.check(n), model.check(n));
    }

    private void compareAll(int run) {
        for (int b = -1; b <= 8; b++) {
            for (int what = -1; what <= 6; what++) {
                is(run, "bankIs " + b + " " + what, bank.bankIs(b, what), model.bankIs(b, what));
            }
            for (int to = -1; to <= 8; to++) {
                is(run, "owes " + b + " " + to, bank.owes(b, to), model.owes(b, to));
                is(run, "holds " + b + " " + to, bank.holds(b, to), model.holds(b, to));
            }
        }
        for (int what = -1; what <= 18; what++) {
            is(run, "count " + what, bank.count(what), model.count(what));
        }
    }
}
