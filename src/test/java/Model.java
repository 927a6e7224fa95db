import java.util.ArrayList;
import java.util.Arrays;
import java.util.List;

/** The document told a second time, slowly and by trying out, for RandomRunsTest to compare with. */
final class Model {
    private static final int N = 8;

    private static final class State {
        int[] cash = new int[N];
        boolean[] told = new boolean[N];
        boolean[] open = new boolean[N];
        int[][] debt = new int[N][N];
        int[][] share = new int[N][N];
        int month = 0;
        int fallen = 0;
        long x = 1;

        State copy() {
            State s = new State();
            s.cash = cash.clone();
            s.told = told.clone();
            s.open = open.clone();
            for (int i = 0; i < N; i++) {
                s.debt[i] = debt[i].clone();
                s.share[i] = share[i].clone();
            }
            s.month = month;
            s.fallen = fallen;
            s.x = x;
            return s;
        }

        int owes(int b) {
            return Arrays.stream(debt[b]).sum();
        }

        int owed(int b) {
            int sum = 0;
            for (int[] row : debt) {
                sum += row[b];
            }
            return sum;
        }

        void shut(int b) {
            open[b] = false;
            cash[b] = 0;
            for (int i = 0; i < N; i++) {
                debt[b][i] = debt[i][b] = share[b][i] = share[i][b] = 0;
            }
        }
    }

    private static final class Fault extends RuntimeException {
        final int answer;

        Fault(int number, int place) {
            super(null, null, false, false);
            answer = -1000 * number - place;
        }
    }

    private static final class Refused extends RuntimeException {
        Refused() {
            super(null, null, false, false);
        }
    }

    private State s = new State();
    private State kept = null;
    private List<Integer> tape = new ArrayList<>();
    private List<Rule> rules = new ArrayList<>();
    private final String[] codes = new String[N];

    private boolean told(int b) {
        return b >= 0 && b < N && s.told[b];
    }

    private boolean open(int b) {
        return b >= 0 && b < N && s.open[b];
    }

    private static boolean in(long n, long low, long high) {
        return n >= low && n <= high;
    }

    boolean bank(int b, int cash) {
        if (!in(b, 0, 7) || !in(cash, 0, 9999)) {
            return false;
        }
        s.told[b] = s.open[b] = true;
        s.cash[b] = cash;
        return true;
    }

    boolean owe(int b, int to, int n) {
        if (!open(b) || !open(to) || b == to || !in(n, 0, 999)) {
            return false;
        }
        s.debt[b][to] = n;
        return true;
    }

    boolean hold(int b, int of, int n) {
        if (!open(b) || !open(of) || b == of || !in(n, 0, 100)) {
            return false;
        }
        int before = s.share[b][of];
        s.share[b][of] = n;
        int sum = 0;
        for (int i = 0; i < N; i++) {
            sum += s.share[i][of];
        }
        if (sum > 100) {
            s.share[b][of] = before;
            return false;
        }
        return true;
    }

    int feed(int... words) {
        if (tape.size() + 20 > 260) {
            return -1;
        }
        for (int w : words) {
            tape.add((w >> 24) & 255);
            tape.add((w >> 16) & 255);
            tape.add((w >> 8) & 255);
            tape.add(w & 255);
        }
        return tape.size();
    }

    private int[] take(int n) {
        int[] bytes = new int[n];
        for (int i = 0; i < n; i++) {
            bytes[i] = tape.get(i);
        }
        tape = new ArrayList<>();
        return bytes;
    }

    private static String textOf(int[] bytes) {
        StringBuilder text = new StringBuilder();
        for (int b : bytes) {
            text.append((char) b);
        }
        return text.toString();
    }

    // ---- the law

    private static final class Ask {
        State s;
        int b;
        int to;
        int d;
    }

    private interface Sum {
        int value(Ask a);
    }

    private interface Case {
        boolean holds(Ask a);
    }

    private record Rule(char letter, Sum sum, Case when) {
        boolean holds(Ask a) {
            try {
                return when.holds(a);
            } catch (Refused r) {
                return false;
            }
        }

        int value(Ask a) {
            try {
                return sum.value(a);
            } catch (Refused r) {
                return 0;
            }
        }
    }

    /** What is open is kept as a text of the brackets and ! themselves. */
    private static final class LawText {
        final String text;
        int at = 0;
        String open = "";

        LawText(String text) {
            this.text = text;
        }

        char now() {
            return at < text.length() ? text.charAt(at) : '\uffff';
        }

        boolean among(String signs) {
            return at < text.length() && signs.indexOf(now()) >= 0;
        }

        char take(String signs) {
            if (!among(signs)) {
                throw new Fault(1, at);
            }
            return text.charAt(at++);
        }

        void push() {
            if (open.length() == 6) {
                throw new Fault(5, at);
            }
            open += now();
            at++;
        }

        void pop() {
            open = open.substring(0, open.length() - 1);
        }

        List<Rule> all() {
            List<Rule> rules = new ArrayList<>();
            do {
                if (!rules.isEmpty()) {
                    take(";");
                }
                int start = at;
                char letter = take("fwqix");
                if (rules.size() == 16) {
                    throw new Fault(4, start);
                }
                Sum sum = letter == 'x' ? null : sum();
                if (now() != '(') {
                    throw new Fault(1, at);
                }
                push();
                Case when = either();
                take(")");
                pop();
                rules.add(new Rule(letter, sum, when));
            } while (at < text.length());
            return rules;
        }

        Case either() {
            List<Case> parts = new ArrayList<>();
            parts.add(both());
            while (among("|")) {
                at++;
                parts.add(both());
            }
            return a -> {
                for (Case c : parts) {
                    if (c.holds(a)) {
                        return true;
                    }
                }
                return false;
            };
        }

        Case both() {
            List<Case> tests = new ArrayList<>();
            tests.add(test());
            while (among("&")) {
                at++;
                tests.add(test());
            }
            return a -> {
                for (Case c : tests) {
                    if (!c.holds(a)) {
                        return false;
                    }
                }
                return true;
            };
        }

        Case test() {
            if (among("!")) {
                push();
                Case c = test();
                pop();
                return a -> !c.holds(a);
            }
            if (among("(")) {
                push();
                Case c = either();
                take(")");
                pop();
                return c;
            }
            Sum left = sum();
            char sign = take("<>=");
            Sum right = sum();
            return a -> {
                int l = left.value(a);
                int r = right.value(a);
                return sign == '<' ? l < r : sign == '>' ? l > r : l == r;
            };
        }

        Sum sum() {
            Sum left = term();
            while (among("+-")) {
                Sum first = left;
                boolean plus = take("+-") == '+';
                Sum second = term();
                left = a -> plus ? first.value(a) + second.value(a) : first.value(a) - second.value(a);
            }
            return left;
        }

        Sum term() {
            Sum left = factor();
            while (among("*/%")) {
                Sum first = left;
                char sign = take("*/%");
                Sum second = factor();
                left = a -> {
                    long l = first.value(a);
                    long r = second.value(a);
                    if (sign == '*') {
                        return (int) (l * r);
                    }
                    if (r == 0) {
                        throw new Refused();
                    }
                    return (int) (sign == '/' ? l / r : l % r);
                };
            }
            return left;
        }

        Sum factor() {
            if (among("[")) {
                push();
                Sum sum = sum();
                take("]");
                pop();
                return sum;
            }
            if (among("bcogedm")) {
                char letter = take("bcogedm");
                return a -> switch (letter) {
                    case 'b' -> a.b;
                    case 'c' -> a.s.cash[a.b];
                    case 'o' -> a.s.owes(a.b);
                    case 'g' -> a.s.owed(a.b);
                    case 'e' -> a.to;
                    case 'd' -> a.d;
                    default -> a.s.month % 12;
                };
            }
            StringBuilder digits = new StringBuilder();
            digits.append(take("0123456789"));
            while (among("0123456789")) {
                if (digits.length() == 5) {
                    throw new Fault(2, at);
                }
                digits.append(take("0123456789"));
            }
            int number = Integer.parseInt(digits.toString());
            return a -> number;
        }
    }

    int law(int n) {
        if (!in(n, 1, 240) || n > tape.size()) {
            return -1;
        }
        try {
            rules = new LawText(textOf(take(n))).all();
            return rules.size();
        } catch (Fault f) {
            return f.answer;
        }
    }

    private int ask(char letter, int most, Ask a) {
        for (Rule r : rules) {
            if (r.letter == letter && r.holds(a)) {
                return Math.min(most, Math.max(0, r.value(a)));
            }
        }
        return 0;
    }

    // ---- the ledger

    int ledger(int n) {
        if (!in(n, 1, 120) || n > tape.size()) {
            return -1;
        }
        State draft = s.copy();
        try {
            int lines = ledger(textOf(take(n)), draft);
            s = draft;
            return lines;
        } catch (Fault f) {
            return f.answer;
        }
    }

    private static int bankAt(String text, int at, State draft, int lines) {
        char c = at < text.length() ? text.charAt(at) : '?';
        if (c < 'a' || c > 'h') {
            throw new Fault(1, at);
        }
        if (lines == 20) {
            throw new Fault(4, at);
        }
        if (!draft.told[c - 'a'] || !draft.open[c - 'a']) {
            throw new Fault(7, at);
        }
        return c - 'a';
    }

    private static int ledger(String text, State draft) {
        int at = 0;
        int lines = 0;
        while (true) {
            final int start = at;
            int b = bankAt(text, at++, draft, lines);
            char kind = at < text.length() ? text.charAt(at) : '?';
            if ("+->!".indexOf(kind) < 0) {
                throw new Fault(1, at);
            }
            at++;
            int to = -1;
            if (kind == '>' || kind == '!') {
                to = bankAt(text, at, draft, 0);
                if (to == b) {
                    throw new Fault(6, at);
                }
                at++;
                if (at >= text.length() || text.charAt(at) != ':') {
                    throw new Fault(1, at);
                }
                at++;
            }
            int from = at;
            while (at < text.length() && Character.digit(text.charAt(at), 10) >= 0 && text.charAt(at) < 128) {
                if (at - from == 3) {
                    throw new Fault(2, at);
                }
                at++;
            }
            if (at == from) {
                throw new Fault(1, at);
            }
            int number = Integer.parseInt(text.substring(from, at));
            switch (kind) {
                case '+' -> draft.cash[b] += number;
                case '-' -> draft.cash[b] -= number;
                case '!' -> draft.debt[b][to] += number;
                default -> {
                    draft.cash[b] -= number;
                    draft.cash[to] += number;
                }
            }
            for (int i = 0; i < N; i++) {
                boolean bad = !in(draft.cash[i], 0, 9999);
                for (int j = 0; j < N; j++) {
                    bad |= draft.debt[i][j] > 999;
                }
                if (bad) {
                    throw new Fault(9, start);
                }
            }
            lines++;
            if (at == text.length()) {
                return lines;
            }
            if (text.charAt(at) != ';') {
                throw new Fault(1, at);
            }
            at++;
        }
    }

    // ---- months

    /** How many were shut, how many runs. */
    private int[] pass(State t, int n) {
        int shut = 0;
        int runs = 0;
        for (int k = 0; k < n; k++) {
            if (t.month == 9999) {
                break;
            }
            Ask a = new Ask();
            a.s = t;
            for (int b = 0; b < N; b++) {
                if (!t.open[b]) {
                    continue;
                }
                a.b = b;
                int f = ask('f', 999, a);
                int w = ask('w', 999, a);
                int q = ask('q', 10, a);
                t.x = (25173 * t.x + 13849) % 65536;
                boolean run = t.x % 10 < q;
                int left = Math.min(9999, t.cash[b] + f) - (run ? w + w : w);
                if (run) {
                    runs++;
                }
                if (left < 0) {
                    t.shut(b);
                    shut++;
                } else {
                    t.cash[b] = left;
                }
            }
            for (int b = 0; b < N; b++) {
                for (int to = 0; to < N; to++) {
                    if (t.debt[b][to] > 0) {
                        a.b = b;
                        a.to = to;
                        a.d = t.debt[b][to];
                        t.debt[b][to] = Math.min(999, t.debt[b][to] + ask('i', 99, a));
                    }
                }
            }
            a.to = 0;
            a.d = 0;
            for (int b = 0; b < N; b++) {
                a.b = b;
                if (t.open[b] && rules.stream().anyMatch(r -> r.letter == 'x' && r.holds(a))) {
                    t.shut(b);
                    shut++;
                }
            }
            t.month++;
        }
        t.fallen += shut;
        return new int[] {shut, runs};
    }

    int months(int n) {
        return in(n, 1, 60) ? pass(s, n)[0] : -1;
    }

    int tried(int n, int what) {
        if (!in(n, 1, 60) || !in(what, 0, 3) && !told(what - 10)) {
            return -1;
        }
        State t = s.copy();
        int[] both = pass(t, n);
        if (what < 2) {
            return both[what];
        }
        if (what == 2) {
            return Arrays.stream(t.cash).sum();
        }
        return what == 3 ? allDebts(t) : t.cash[what - 10];
    }

    private static int allDebts(State t) {
        int sum = 0;
        for (int b = 0; b < N; b++) {
            sum += t.owes(b);
        }
        return sum;
    }

    // ---- banks

    private int worth(int b) {
        return s.cash[b] + s.owed(b) - s.owes(b);
    }

    private int control(int b) {
        boolean[] mine = new boolean[N];
        mine[b] = true;
        boolean more = true;
        while (more) {
            more = false;
            for (int of = 0; of < N; of++) {
                int sum = 0;
                for (int by = 0; by < N; by++) {
                    sum += mine[by] ? s.share[by][of] : 0;
                }
                if (sum > 50 && !mine[of]) {
                    mine[of] = true;
                    more = true;
                }
            }
        }
        mine[b] = false;
        return bits(mine);
    }

    private static int bits(boolean[] which) {
        int bits = 0;
        for (int i = 0; i < N; i++) {
            bits += which[i] ? 1 << i : 0;
        }
        return bits;
    }

    int bankIs(int b, int what) {
        if (!told(b)) {
            return what == 4 ? -1000000 : -1;
        }
        return switch (what) {
            case 0 -> s.cash[b];
            case 1 -> s.open[b] ? 1 : 0;
            case 2 -> s.owes(b);
            case 3 -> s.owed(b);
            case 4 -> worth(b);
            case 5 -> control(b);
            default -> -1;
        };
    }

    int owes(int b, int to) {
        return told(b) && told(to) && b != to ? s.debt[b][to] : -1;
    }

    int holds(int b, int of) {
        return told(b) && told(of) && b != of ? s.share[b][of] : -1;
    }

    // ---- clearing

    private final class Cleared {
        final long[] pays = new long[N];
        final long[] gets = new long[N];
        final int[] when = new int[N];
        int rounds = 0;

        Cleared(long[] cash) {
            for (int b = 0; b < N; b++) {
                pays[b] = s.owes(b);
            }
            while (true) {
                long[] next = new long[N];
                for (int b = 0; b < N; b++) {
                    gets[b] = 0;
                    for (int from = 0; from < N; from++) {
                        if (s.debt[from][b] > 0) {
                            gets[b] += s.debt[from][b] * pays[from] / s.owes(from);
                        }
                    }
                    next[b] = Math.min(s.owes(b), cash[b] + gets[b]);
                }
                if (Arrays.equals(next, pays)) {
                    return;
                }
                rounds++;
                for (int b = 0; b < N; b++) {
                    if (next[b] < pays[b] && when[b] == 0) {
                        when[b] = rounds;
                    }
                    pays[b] = next[b];
                }
            }
        }

        int fall() {
            int bits = 0;
            for (int b = 0; b < N; b++) {
                bits += pays[b] < s.owes(b) ? 1 << b : 0;
            }
            return bits;
        }
    }

    private long[] cashWith(int b, int more) {
        long[] cash = new long[N];
        for (int i = 0; i < N; i++) {
            cash[i] = s.cash[i];
        }
        cash[b] = Math.max(0, cash[b] + more);
        return cash;
    }

    int cleared(int what) {
        Cleared c = new Cleared(cashWith(0, 0));
        if (what == 0 || what == 1) {
            return what == 0 ? c.fall() : c.rounds;
        }
        if (told(what - 10)) {
            return (int) c.pays[what - 10];
        }
        return told(what - 20) ? (int) c.gets[what - 20] : -1;
    }

    int falls(int b) {
        if (!told(b)) {
            return -1;
        }
        int when = new Cleared(cashWith(0, 0)).when[b];
        return when == 0 ? -2 : when;
    }

    int keystone(int what) {
        if (!in(what, 0, 1)) {
            return -1;
        }
        int best = -2;
        int most = -1;
        for (int b = 0; b < N; b++) {
            if (s.open[b]) {
                int fall = Integer.bitCount(new Cleared(cashWith(b, -s.cash[b])).fall());
                if (fall > most) {
                    most = fall;
                    best = b;
                }
            }
        }
        return what == 0 ? best : Math.max(0, most);
    }

    int blow(int b, int much) {
        return open(b) && in(much, 0, 9999) ? new Cleared(cashWith(b, -much)).fall() : -1;
    }

    int leastBlow(int b, int falls) {
        if (!open(b) || !open(falls)) {
            return -1;
        }
        for (int much = 0; much <= s.cash[b]; much++) {
            if ((new Cleared(cashWith(b, -much)).fall() >> falls & 1) == 1) {
                return much;
            }
        }
        return -2;
    }

    int help(int b) {
        if (!open(b)) {
            return -1;
        }
        if (new Cleared(cashWith(b, 9999)).fall() != 0) {
            return -2;
        }
        int much = 0;
        while (new Cleared(cashWith(b, much)).fall() != 0) {
            much++;
        }
        return much;
    }

    // ---- debts

    int setOff() {
        int sum = 0;
        for (int b = 0; b < N; b++) {
            for (int to = 0; to < N; to++) {
                sum += b == to ? 0 : Math.min(s.debt[b][to], s.debt[to][b]);
            }
        }
        return sum;
    }

    int settled(int what) {
        if (!in(what, 0, 1)) {
            return -1;
        }
        List<Integer> net = new ArrayList<>();
        for (int b = 0; b < N; b++) {
            if (s.owed(b) != s.owes(b)) {
                net.add(s.owed(b) - s.owes(b));
            }
        }
        int groups = mostGroups(net, new ArrayList<>(), 0);
        return what == 0 ? net.size() - groups : groups;
    }

    /** Tries all ways to part them; -1 if a group does not come to 0. */
    private static int mostGroups(List<Integer> net, List<Integer> groups, int next) {
        if (next == net.size()) {
            return groups.stream().allMatch(g -> g == 0) ? groups.size() : -1;
        }
        int best = -1;
        for (int g = 0; g < groups.size(); g++) {
            groups.set(g, groups.get(g) + net.get(next));
            best = Math.max(best, mostGroups(net, groups, next + 1));
            groups.set(g, groups.get(g) - net.get(next));
        }
        groups.add(net.get(next));
        best = Math.max(best, mostGroups(net, groups, next + 1));
        groups.remove(groups.size() - 1);
        return best;
    }

    /** The best {how many, how wide} of all ways that meet nobody twice. */
    private int[] bestWay(int at, int to, int met, int steps, int width, boolean widestFirst) {
        if (steps > 0 && at == to) {
            return new int[] {steps, width};
        }
        int[] best = null;
        for (int next = 0; next < N; next++) {
            if (s.debt[at][next] > 0 && ((met >> next & 1) == 0 || next == to)) {
                int[] way = bestWay(next, to, met | 1 << next, steps + 1, Math.min(width, s.debt[at][next]),
                    widestFirst);
                if (way != null && (best == null || better(way, best, widestFirst))) {
                    best = way;
                }
            }
        }
        return best;
    }

    private static boolean better(int[] way, int[] best, boolean widestFirst) {
        int fewer = Integer.compare(best[0], way[0]);
        int wider = Integer.compare(way[1], best[1]);
        int first = widestFirst ? wider : fewer;
        return first > 0 || first == 0 && (widestFirst ? fewer : wider) > 0;
    }

    int ring(int b, int what) {
        if (!told(b) || !in(what, 0, 1)) {
            return -1;
        }
        int[] way = bestWay(b, b, 1 << b, 0, 99999, false);
        return way == null ? -2 : way[what];
    }

    int road(int b, int to, int what) {
        if (!told(b) || !told(to) || b == to || !in(what, 0, 1)) {
            return -1;
        }
        int[] way = bestWay(b, to, 1 << b, 0, 99999, true);
        return way == null ? -2 : way[1 - what];
    }

    int mergers(int banks, int what) {
        if (!in(banks, 0, 255) || !in(Integer.bitCount(banks), 2, 8) || !in(what, 0, 1)) {
            return -1;
        }
        List<Integer> worths = new ArrayList<>();
        for (int b = 0; b < N; b++) {
            if ((banks >> b & 1) == 1) {
                if (!s.open[b]) {
                    return -1;
                }
                worths.add(worth(b));
            }
        }
        return bestMergers(worths)[what];
    }

    private static int[] bestMergers(List<Integer> worths) {
        if (worths.isEmpty()) {
            return new int[] {0, 0};
        }
        int first = worths.get(0);
        List<Integer> rest = worths.subList(1, worths.size());
        int[] best = bestMergers(rest);
        best[0] += first < 0 ? 1 : 0;
        for (int i = 0; i < rest.size(); i++) {
            List<Integer> others = new ArrayList<>(rest);
            int both = others.remove(i) + first;
            int[] way = bestMergers(others);
            way[0] += both < 0 ? 1 : 0;
            way[1]++;
            if (way[0] < best[0] || way[0] == best[0] && way[1] < best[1]) {
                best = way;
            }
        }
        return best;
    }

    boolean merge(int b, int other) {
        if (!open(b) || !open(other) || b == other) {
            return false;
        }
        s.cash[b] = Math.min(9999, s.cash[b] + s.cash[other]);
        for (int i = 0; i < N; i++) {
            if (i != b && i != other) {
                s.debt[b][i] = Math.min(999, s.debt[b][i] + s.debt[other][i]);
                s.debt[i][b] = Math.min(999, s.debt[i][b] + s.debt[i][other]);
                s.share[b][i] += s.share[other][i];
            }
        }
        s.shut(other);
        return true;
    }

    int tampered(int what) {
        if (!in(what, 0, 2) || tape.size() < 32) {
            return -1;
        }
        int[] bytes = take(32);
        if (asTold(bytes)) {
            return -2;
        }
        for (int from = 0; from < N; from++) {
            for (int to = 0; to < N; to++) {
                if (from == to || !s.open[from] || !s.open[to]) {
                    continue;
                }
                int before = s.debt[from][to];
                for (int should = 0; should <= 999; should++) {
                    s.debt[from][to] = should;
                    if (asTold(bytes)) {
                        s.debt[from][to] = before;
                        return new int[] {from, to, should}[what];
                    }
                }
                s.debt[from][to] = before;
            }
        }
        return -3;
    }

    private boolean asTold(int[] bytes) {
        for (int b = 0; b < N; b++) {
            if (s.owes(b) != 256 * bytes[4 * b] + bytes[4 * b + 1]
                || s.owed(b) != 256 * bytes[4 * b + 2] + bytes[4 * b + 3]) {
                return false;
            }
        }
        return true;
    }

    // ---- money

    int taken(int n, int shortage, int what) {
        if (!in(n, 1, 12) || !in(shortage, 0, 3060) || !in(what, 0, 1) || n > tape.size()) {
            return -1;
        }
        int[] sums = take(n);
        List<Integer> sets = new ArrayList<>();
        for (int set = 0; set < 1 << n; set++) {
            int sum = 0;
            for (int i = 0; i < n; i++) {
                sum += (set >> i & 1) * sums[i];
            }
            if (sum == shortage) {
                sets.add(set);
            }
        }
        if (sets.isEmpty()) {
            return -2;
        }
        sets.sort((a, b) -> Integer.bitCount(a) != Integer.bitCount(b)
            ? Integer.bitCount(a) - Integer.bitCount(b) : a - b);
        return what == 0 ? Integer.bitCount(sets.get(0)) : sets.get(0);
    }

    private static int paidOff(int much, int hundredths, int payment) {
        java.math.BigInteger left = java.math.BigInteger.valueOf(much);
        java.math.BigInteger hundred = java.math.BigInteger.valueOf(100);
        for (int month = 1; month <= 600; month++) {
            java.math.BigInteger[] more = left.multiply(java.math.BigInteger.valueOf(hundredths))
                .divideAndRemainder(hundred);
            left = left.add(more[0]).subtract(java.math.BigInteger.valueOf(payment));
            if (more[1].signum() > 0) {
                left = left.add(java.math.BigInteger.ONE);
            }
            if (left.signum() <= 0) {
                return month;
            }
        }
        return -2;
    }

    int loan(int much, int hundredths, int payment) {
        if (!in(much, 1, 9999) || !in(hundredths, 0, 20) || !in(payment, 1, 9999)) {
            return -1;
        }
        return paidOff(much, hundredths, payment);
    }

    int payment(int much, int hundredths, int months) {
        if (!in(much, 1, 9999) || !in(hundredths, 0, 20) || !in(months, 1, 60)) {
            return -1;
        }
        for (int payment = 1;; payment++) {
            long left = much;
            for (int month = 1; month <= months && left > 0; month++) {
                left += -Math.floorDiv(-left * hundredths, 100L) - payment;
            }
            if (left <= 0) {
                return payment;
            }
        }
    }

    // ---- codes

    int code(int sign, int n) {
        if (!in(sign, 0, 7) || !in(n, 1, 6) || n > tape.size()) {
            return -1;
        }
        String text = textOf(take(n));
        int wrong = firstWrong(text);
        if (wrong >= 0) {
            return -1000 - wrong;
        }
        codes[sign] = text;
        return n;
    }

    private static int firstWrong(String text) {
        for (int i = 0; i < text.length(); i++) {
            if (".-".indexOf(text.charAt(i)) < 0) {
                return i;
            }
        }
        return -1;
    }

    int blinks(int n, int what) {
        if (!in(n, 1, 60) || !in(what, 0, 59) && !in(what, 100, 101) || n > tape.size()) {
            return -1;
        }
        String text = textOf(take(n));
        int wrong = firstWrong(text);
        if (wrong >= 0) {
            return -1000 - wrong;
        }
        // From the beginning on: the ways to come to a place, and the least of the shortest rows to it.
        java.math.BigInteger[] ways = new java.math.BigInteger[n + 1];
        String[] rows = new String[n + 1];
        Arrays.fill(ways, java.math.BigInteger.ZERO);
        ways[0] = java.math.BigInteger.ONE;
        rows[0] = "";
        for (int at = 0; at < n; at++) {
            for (int sign = 0; sign < N; sign++) {
                if (codes[sign] != null && rows[at] != null && text.startsWith(codes[sign], at)) {
                    int to = at + codes[sign].length();
                    ways[to] = ways[to].add(ways[at]);
                    String row = rows[at] + sign;
                    if (rows[to] == null || row.length() < rows[to].length()
                        || row.length() == rows[to].length() && row.compareTo(rows[to]) < 0) {
                        rows[to] = row;
                    }
                }
            }
        }
        if (what == 100) {
            return ways[n].min(java.math.BigInteger.valueOf(1000000000)).intValue();
        }
        if (rows[n] == null) {
            return -2;
        }
        if (what == 101) {
            return rows[n].length();
        }
        return what < rows[n].length() ? rows[n].charAt(what) - '0' : -4;
    }

    int atOnce() {
        for (int a = 0; a < N; a++) {
            for (int b = 0; b < N; b++) {
                if (a != b && codes[a] != null && codes[b] != null && codes[b].startsWith(codes[a])) {
                    return 0;
                }
            }
        }
        return 1;
    }

    int shortest(int n) {
        if (!in(n, 2, 8) || n > tape.size()) {
            return -1;
        }
        int[] often = take(n);
        Arrays.sort(often);
        return often[0] == 0 ? -2 : cheapestDepths(often, n - 1, 1, 1 << 7);
    }

    /** The rarer a sign the longer its code; what is left of the room halves with each blink. */
    private static int cheapestDepths(int[] often, int which, int depth, int room) {
        if (which < 0) {
            return 0;
        }
        int best = Integer.MAX_VALUE;
        for (int d = depth; d <= 7; d++) {
            int needed = 1 << (7 - d);
            if (needed <= room) {
                int others = cheapestDepths(often, which - 1, d, room - needed);
                if (others != Integer.MAX_VALUE) {
                    best = Math.min(best, others + d * often[which]);
                }
            }
        }
        return best;
    }

    int inOrder(int n) {
        if (!in(n, 2, 8) || n > tape.size()) {
            return -1;
        }
        int[] often = take(n);
        return Arrays.stream(often).anyMatch(o -> o == 0) ? -2 : putTogether(often);
    }

    /** Tries all orders of putting neighbours together. */
    private static int putTogether(int[] often) {
        if (often.length == 1) {
            return 0;
        }
        int best = Integer.MAX_VALUE;
        for (int i = 0; i + 1 < often.length; i++) {
            int[] less = new int[often.length - 1];
            for (int j = 0; j < less.length; j++) {
                less[j] = j < i ? often[j] : j == i ? often[i] + often[i + 1] : often[j + 1];
            }
            best = Math.min(best, less[i] + putTogether(less));
        }
        return best;
    }

    // ---- kept and told

    boolean seed(int x) {
        if (!in(x, 0, 65535)) {
            return false;
        }
        s.x = x;
        return true;
    }

    int keep() {
        kept = s.copy();
        return s.month;
    }

    boolean undo() {
        if (kept == null) {
            return false;
        }
        s = kept.copy();
        return true;
    }

    int check(int n) {
        if (!in(n, 0, 8) || n > tape.size()) {
            return -2;
        }
        int[] bytes = take(n);
        for (int b = 0; b < n; b++) {
            if ((s.told[b] ? s.cash[b] & 255 : 0) != bytes[b]) {
                return b;
            }
        }
        return -1;
    }

    int count(int what) {
        if (in(what, 10, 17)) {
            return codes[what - 10] == null ? -1 : codes[what - 10].length();
        }
        boolean[] signs = new boolean[N];
        for (int i = 0; i < N; i++) {
            signs[i] = codes[i] != null;
        }
        return switch (what) {
            case 0 -> s.month;
            case 1 -> s.fallen;
            case 2 -> bits(s.told);
            case 3 -> bits(s.open);
            case 4 -> bits(signs);
            case 5 -> rules.size();
            case 6 -> tape.size();
            case 7 -> (int) s.x;
            case 8 -> allDebts(s);
            default -> -1;
        };
    }
}
