/** The accounts that toads keep: banks, debts, shares, a law, months, and codes of blinks. */
public final class ToadBank {
    public static final int NONE = -1;

    private static final int BANKS = 8;
    private static final int SIGNS = 8;
    private static final int MOST_CASH = 9999;
    private static final int MOST_DEBT = 999;
    private static final int MOST_MONTH = 9999;
    private static final int ALL_SHARES = 100;
    private static final int MOST_MONTHS_IN_A_CALL = 60;
    private static final int MOST_LOAN_MONTHS = 600;
    private static final int MOST_HUNDREDTHS = 20;
    private static final int MOST_LAW_BYTES = 240;
    private static final int MOST_LEDGER_BYTES = 120;
    private static final int MOST_TEXT_BLINKS = 60;
    private static final int MOST_SUMS = 12;
    private static final int MOST_SHORTAGE = 3060;
    private static final int TAMPER_BYTES = 32;
    private static final int NO_WORTH = -1000000;

    private final Tape tape;
    private final Town town;
    private final Town kept;
    private final Town spare;
    private final LedgerReader ledgerReader;
    private final LawReader lawReader;
    private final Asker asker;
    private final Months monthRun;
    private final Clearing clearing;
    private final Roads roads;
    private final Parting parting;
    private final Codes codes;
    private final Law lawInForce;
    private boolean everKept;

    public ToadBank() {
        tape = new Tape();
        town = new Town();
        kept = new Town();
        spare = new Town();
        ledgerReader = new LedgerReader();
        lawReader = new LawReader();
        asker = new Asker();
        monthRun = new Months();
        clearing = new Clearing();
        roads = new Roads();
        parting = new Parting();
        codes = new Codes();
        lawInForce = new Law();
        everKept = false;
    }

    public boolean bank(int b, int cash) {
        if (!isBank(b) || cash < 0 || cash > MOST_CASH) {
            return false;
        }
        town.open(b, cash);
        return true;
    }

    public boolean owe(int b, int to, int n) {
        if (!town.areOpen(b, to) || n < 0 || n > MOST_DEBT) {
            return false;
        }
        town.setDebt(b, to, n);
        return true;
    }

    public boolean hold(int b, int of, int hundredths) {
        if (!town.areOpen(b, of) || hundredths < 0 || hundredths > ALL_SHARES) {
            return false;
        }
        if (town.sharesOutside(of, b) + hundredths > ALL_SHARES) {
            return false;
        }
        town.setShare(b, of, hundredths);
        return true;
    }

    public int feed(int a, int b, int c, int d, int e) {
        if (!tape.hasRoomForFeed()) {
            return NONE;
        }
        tape.append(a);
        tape.append(b);
        tape.append(c);
        tape.append(d);
        tape.append(e);
        return tape.size;
    }

    public int law(int n) {
        if (n < 1 || n > MOST_LAW_BYTES || n > tape.size) {
            return NONE;
        }
        int answer = lawReader.read(tape, n);
        tape.clear();
        if (answer >= 0) {
            lawInForce.copyFrom(lawReader.draft);
        }
        return answer;
    }

    public int ledger(int n) {
        if (n < 1 || n > MOST_LEDGER_BYTES || n > tape.size) {
            return NONE;
        }
        spare.copyFrom(town);
        int answer = ledgerReader.read(tape, n, spare);
        tape.clear();
        if (answer >= 0) {
            town.copyFrom(spare);
        }
        return answer;
    }

    public int months(int n) {
        if (n < 1 || n > MOST_MONTHS_IN_A_CALL) {
            return NONE;
        }
        monthRun.run(town, lawInForce, asker, n);
        return monthRun.shut;
    }

    public int tried(int n, int what) {
        boolean ofOne = town.isTold(what - 10);
        if (n < 1 || n > MOST_MONTHS_IN_A_CALL || !ofOne && (what < 0 || what > 3)) {
            return NONE;
        }
        spare.copyFrom(town);
        monthRun.run(spare, lawInForce, asker, n);
        switch (what) {
            case 0:
                return monthRun.shut;
            case 1:
                return monthRun.runs;
            case 2:
                return spare.allCash();
            case 3:
                return spare.allDebts();
            default:
                return spare.cashOf(what - 10);
        }
    }

    public int bankIs(int b, int what) {
        if (!town.isTold(b)) {
            return what == 4 ? NO_WORTH : NONE;
        }
        switch (what) {
            case 0:
                return town.cashOf(b);
            case 1:
                return town.isOpen(b) ? 1 : 0;
            case 2:
                return town.owesInAll(b);
            case 3:
                return town.isOwedInAll(b);
            case 4:
                return town.worth(b);
            case 5:
                return town.controlledBy(b);
            default:
                return NONE;
        }
    }

    public int owes(int b, int to) {
        return town.areTold(b, to) ? town.debt(b, to) : NONE;
    }

    public int holds(int b, int of) {
        return town.areTold(b, of) ? town.share(b, of) : NONE;
    }

    public int cleared(int what) {
        boolean ofPayer = town.isTold(what - 10);
        boolean ofGetter = town.isTold(what - 20);
        if (!ofPayer && !ofGetter && what != 0 && what != 1) {
            return NONE;
        }
        clearing.takeIn(town);
        clearing.payAtOnce();
        if (ofPayer) {
            return clearing.paidBy(what - 10);
        }
        if (ofGetter) {
            return clearing.gottenBy(what - 20);
        }
        return what == 0 ? clearing.fallen() : clearing.rounds;
    }

    public int falls(int b) {
        if (!town.isTold(b)) {
            return NONE;
        }
        clearing.takeIn(town);
        clearing.payAtOnce();
        int round = clearing.roundOfFall(b);
        return round > 0 ? round : -2;
    }

    public int keystone(int what) {
        if (what != 0 && what != 1) {
            return NONE;
        }
        int keystone = -2;
        int most = 0;
        for (int b = 0; b < BANKS; b++) {
            if (town.isOpen(b)) {
                int fall = Integer.bitCount(fallenByBlow(b, MOST_CASH));
                if (keystone < 0 || fall > most) {
                    keystone = b;
                    most = fall;
                }
            }
        }
        return what == 0 ? keystone : most;
    }

    public int blow(int b, int much) {
        if (!town.isOpen(b) || much < 0 || much > MOST_CASH) {
            return NONE;
        }
        return fallenByBlow(b, much);
    }

    private int fallenByBlow(int b, int much) {
        clearing.takeIn(town);
        clearing.strike(b, much);
        clearing.payAtOnce();
        return clearing.fallen();
    }

    public int leastBlow(int b, int falls) {
        if (!town.isOpen(b) || !town.isOpen(falls)) {
            return NONE;
        }
        int bit = 1 << falls;
        if ((fallenByBlow(b, MOST_CASH) & bit) == 0) {
            return -2;
        }
        // Less cash never lets anybody pay more, so what falls by a blow falls by each greater one.
        int low = 0;
        int high = town.cashOf(b);
        while (low < high) {
            int middle = (low + high) / 2;
            if ((fallenByBlow(b, middle) & bit) != 0) {
                high = middle;
            } else {
                low = middle + 1;
            }
        }
        return low;
    }

    public int help(int b) {
        if (!town.isOpen(b)) {
            return NONE;
        }
        // Nobody falls just if each one, paid by all in full, can pay all: if none is worth less than 0.
        // Nobody can be worth less than seven debts below 0, so no more than the 9999 is ever asked.
        for (int other = 0; other < BANKS; other++) {
            if (other != b && town.worth(other) < 0) {
                return -2;
            }
        }
        return Math.max(0, -town.worth(b));
    }

    public int setOff() {
        return town.debtsToSetOff();
    }

    public int settled(int what) {
        if (what != 0 && what != 1) {
            return NONE;
        }
        int groups = parting.groupsOf(town);
        return what == 0 ? parting.unsettled - groups : groups;
    }

    public int ring(int b, int what) {
        if (!town.isTold(b) || what != 0 && what != 1) {
            return NONE;
        }
        roads.walkFrom(town, b);
        int steps = roads.fewestStepsTo(b);
        if (steps == 0) {
            return -2;
        }
        return what == 0 ? steps : roads.width(steps, b);
    }

    public int road(int b, int to, int what) {
        if (!town.areTold(b, to) || what != 0 && what != 1) {
            return NONE;
        }
        roads.walkFrom(town, b);
        int steps = roads.stepsOfWidestTo(to);
        if (steps == 0) {
            return -2;
        }
        return what == 0 ? roads.width(steps, to) : steps;
    }

    public int mergers(int banks, int what) {
        boolean allOpen = (banks & ~town.openBits) == 0;
        if (!allOpen || Integer.bitCount(banks) < 2 || what != 0 && what != 1) {
            return NONE;
        }
        parting.pairUp(town, banks);
        return what == 0 ? parting.badOf(banks) : parting.twosOf(banks);
    }

    public boolean merge(int b, int other) {
        if (!town.areOpen(b, other)) {
            return false;
        }
        town.join(b, other);
        return true;
    }

    public int tampered(int what) {
        if (what < 0 || what > 2 || tape.size < TAMPER_BYTES) {
            return NONE;
        }
        int answer = findTampered(what);
        tape.clear();
        return answer;
    }

    private int findTampered(int what) {
        int wrongOwing = 0;
        int wrongOwed = 0;
        int from = NONE;
        int to = NONE;
        int moreOwing = 0;
        int moreOwed = 0;
        for (int b = 0; b < BANKS; b++) {
            int owing = tape.twoBytesAt(4 * b) - town.owesInAll(b);
            if (owing != 0) {
                wrongOwing++;
                from = b;
                moreOwing = owing;
            }
            int owed = tape.twoBytesAt(4 * b + 2) - town.isOwedInAll(b);
            if (owed != 0) {
                wrongOwed++;
                to = b;
                moreOwed = owed;
            }
        }
        if (wrongOwing == 0 && wrongOwed == 0) {
            return -2;
        }
        if (wrongOwing != 1 || wrongOwed != 1 || moreOwing != moreOwed || !town.areOpen(from, to)) {
            return -3;
        }
        int should = town.debt(from, to) + moreOwing;
        if (should < 0 || should > MOST_DEBT) {
            return -3;
        }
        return what == 0 ? from : what == 1 ? to : should;
    }

    public int taken(int n, int shortage, int what) {
        if (n < 1 || n > MOST_SUMS || n > tape.size) {
            return NONE;
        }
        if (shortage < 0 || shortage > MOST_SHORTAGE || what != 0 && what != 1) {
            return NONE;
        }
        int which = fewestSums(n, shortage);
        tape.clear();
        if (which < 0) {
            return -2;
        }
        return what == 0 ? Integer.bitCount(which) : which;
    }

    private int fewestSums(int n, int shortage) {
        int best = NONE;
        int fewest = n + 1;
        for (int which = 0; which < (1 << n); which++) {
            int many = Integer.bitCount(which);
            if (many < fewest && sumOf(n, which) == shortage) {
                best = which;
                fewest = many;
            }
        }
        return best;
    }

    private int sumOf(int n, int which) {
        int sum = 0;
        for (int i = 0; i < n; i++) {
            if ((which & (1 << i)) != 0) {
                sum += tape.at(i);
            }
        }
        return sum;
    }

    public int loan(int much, int hundredths, int payment) {
        if (!isLoan(much, hundredths) || payment < 1 || payment > MOST_CASH) {
            return NONE;
        }
        return monthsToPayOff(much, hundredths, payment);
    }

    private static boolean isLoan(int much, int hundredths) {
        return much >= 1 && much <= MOST_CASH && hundredths >= 0 && hundredths <= MOST_HUNDREDTHS;
    }

    private static int monthsToPayOff(int much, int hundredths, int payment) {
        int left = much;
        for (int month = 1; month <= MOST_LOAN_MONTHS; month++) {
            int before = left;
            left = left + (left * hundredths + 99) / 100 - payment;
            if (left <= 0) {
                return month;
            }
            // What did not get less in one month never will, and would grow beyond an int.
            if (left >= before) {
                return -2;
            }
        }
        return -2;
    }

    public int payment(int much, int hundredths, int months) {
        if (!isLoan(much, hundredths) || months < 1 || months > MOST_MONTHS_IN_A_CALL) {
            return NONE;
        }
        int low = 1;
        int high = much + (much * hundredths + 99) / 100;
        while (low < high) {
            int middle = (low + high) / 2;
            int needed = monthsToPayOff(much, hundredths, middle);
            if (needed >= 1 && needed <= months) {
                high = middle;
            } else {
                low = middle + 1;
            }
        }
        return low;
    }

    public int code(int sign, int n) {
        if (sign < 0 || sign >= SIGNS || n < 1 || n > Codes.MOST_BLINKS || n > tape.size) {
            return NONE;
        }
        int wrong = tape.firstNoBlink(n);
        if (wrong < n) {
            tape.clear();
            return fault(1, wrong);
        }
        codes.tell(sign, tape, n);
        tape.clear();
        return n;
    }

    public int blinks(int n, int what) {
        boolean isPlace = what >= 0 && what < MOST_TEXT_BLINKS;
        if (n < 1 || n > MOST_TEXT_BLINKS || n > tape.size || !isPlace && what != 100 && what != 101) {
            return NONE;
        }
        int answer = readBlinks(n, what);
        tape.clear();
        return answer;
    }

    private int readBlinks(int n, int what) {
        int wrong = tape.firstNoBlink(n);
        if (wrong < n) {
            return fault(1, wrong);
        }
        codes.readAll(tape, n);
        if (what == 100) {
            return codes.waysFrom(0);
        }
        int signs = codes.fewestFrom(0);
        if (signs < 0) {
            return -2;
        }
        if (what == 101) {
            return signs;
        }
        return what < signs ? codes.signAtPlace(tape, n, what) : -4;
    }

    public int atOnce() {
        return codes.areReadAtOnce() ? 1 : 0;
    }

    public int shortest(int n) {
        if (n < 2 || n > SIGNS || n > tape.size) {
            return NONE;
        }
        int answer = tape.hasZeroAmong(n) ? -2 : codes.shortestOf(tape, n);
        tape.clear();
        return answer;
    }

    public int inOrder(int n) {
        if (n < 2 || n > SIGNS || n > tape.size) {
            return NONE;
        }
        int answer = tape.hasZeroAmong(n) ? -2 : codes.shortestInOrder(tape, n);
        tape.clear();
        return answer;
    }

    public boolean seed(int x) {
        if (x < 0 || x > 65535) {
            return false;
        }
        town.x = x;
        return true;
    }

    public int keep() {
        kept.copyFrom(town);
        everKept = true;
        return town.month;
    }

    public boolean undo() {
        if (!everKept) {
            return false;
        }
        town.copyFrom(kept);
        return true;
    }

    public int check(int n) {
        if (n < 0 || n > BANKS || n > tape.size) {
            return -2;
        }
        int wrong = NONE;
        for (int b = n - 1; b >= 0; b--) {
            if (town.cashOf(b) % 256 != tape.at(b)) {
                wrong = b;
            }
        }
        tape.clear();
        return wrong;
    }

    public int count(int what) {
        switch (what) {
            case 0:
                return town.month;
            case 1:
                return town.fallen;
            case 2:
                return town.toldBits;
            case 3:
                return town.openBits;
            case 4:
                return codes.toldBits();
            case 5:
                return lawInForce.rules;
            case 6:
                return tape.size;
            case 7:
                return town.x;
            case 8:
                return town.allDebts();
            default:
                int many = codes.lengthOf(what - 10);
                return many > 0 ? many : NONE;
        }
    }

    private static boolean isBank(int b) {
        return b >= 0 && b < BANKS;
    }

    private static boolean isDigit(int sign) {
        return sign >= '0' && sign <= '9';
    }

    private static int fault(int number, int place) {
        return -1000 * number - place;
    }

    /** The bytes that wait to be read, and how far a text at their beginning has been read. */
    private static final class Tape {
        private static final int ROOM = 260;
        private static final int BYTES_OF_FEED = 20;

        private final int[] bytes = new int[ROOM];
        private int size = 0;
        private int textEnd = 0;
        private int place = 0;
        private int number = 0;
        private int found = 0;

        boolean hasRoomForFeed() {
            return size + BYTES_OF_FEED <= ROOM;
        }

        void append(int four) {
            for (int shift = 24; shift >= 0; shift -= 8) {
                if (size < ROOM) {
                    bytes[size] = (four >>> shift) & 255;
                    size++;
                }
            }
        }

        void clear() {
            size = 0;
        }

        int at(int i) {
            return i >= 0 && i < size && i < ROOM ? bytes[i] : NONE;
        }

        int twoBytesAt(int i) {
            return at(i) * 256 + at(i + 1);
        }

        /** The first of n places that holds neither . nor -; n if there is none. */
        int firstNoBlink(int n) {
            for (int i = 0; i < n; i++) {
                int sign = at(i);
                if (sign != '.' && sign != '-') {
                    return i;
                }
            }
            return n;
        }

        boolean hasZeroAmong(int n) {
            for (int i = 0; i < n; i++) {
                if (at(i) == 0) {
                    return true;
                }
            }
            return false;
        }

        void startText(int n) {
            textEnd = n;
            place = 0;
            found = 0;
        }

        boolean isRead() {
            return place >= textEnd;
        }

        /** The sign that is read next, NONE at the end. */
        int sign() {
            return place < textEnd ? at(place) : NONE;
        }

        void step() {
            place++;
        }

        /** Always false, so that a reader can give up in one go. */
        boolean fail(int kind) {
            found = fault(kind, place);
            return false;
        }

        boolean failAt(int kind, int where) {
            found = fault(kind, where);
            return false;
        }

        boolean expect(int sign) {
            if (sign() != sign) {
                return fail(1);
            }
            place++;
            return true;
        }

        boolean readNumber(int mostDigits) {
            number = 0;
            for (int digits = 0; digits <= mostDigits; digits++) {
                int sign = sign();
                if (!isDigit(sign)) {
                    return digits > 0 || fail(1);
                }
                if (digits == mostDigits) {
                    return fail(2);
                }
                number = number * 10 + sign - '0';
                place++;
            }
            return true;
        }
    }

    /** All that can be kept and undone: banks, debts, shares, the month, the fallen, x. */
    private static final class Town {
        private final int[] cash = new int[BANKS];
        private final int[] debts = new int[BANKS * BANKS];
        private final int[] shares = new int[BANKS * BANKS];
        private int toldBits = 0;
        private int openBits = 0;
        private int month = 0;
        private int fallen = 0;
        private int x = 1;

        void copyFrom(Town other) {
            System.arraycopy(other.cash, 0, cash, 0, BANKS);
            System.arraycopy(other.debts, 0, debts, 0, BANKS * BANKS);
            System.arraycopy(other.shares, 0, shares, 0, BANKS * BANKS);
            toldBits = other.toldBits;
            openBits = other.openBits;
            month = other.month;
            fallen = other.fallen;
            x = other.x;
        }

        boolean isTold(int b) {
            return isBank(b) && (toldBits & (1 << b)) != 0;
        }

        boolean isOpen(int b) {
            return isBank(b) && (openBits & (1 << b)) != 0;
        }

        boolean areTold(int b, int other) {
            return b != other && isTold(b) && isTold(other);
        }

        boolean areOpen(int b, int other) {
            return b != other && isOpen(b) && isOpen(other);
        }

        void open(int b, int much) {
            if (isBank(b)) {
                toldBits |= 1 << b;
                openBits |= 1 << b;
                cash[b] = much;
            }
        }

        int cashOf(int b) {
            return isBank(b) ? cash[b] : 0;
        }

        void setCash(int b, int much) {
            if (isBank(b)) {
                cash[b] = much;
            }
        }

        int debt(int b, int to) {
            return isBank(b) && isBank(to) ? debts[b * BANKS + to] : 0;
        }

        void setDebt(int b, int to, int n) {
            if (isBank(b) && isBank(to)) {
                debts[b * BANKS + to] = n;
            }
        }

        int share(int b, int of) {
            return isBank(b) && isBank(of) ? shares[b * BANKS + of] : 0;
        }

        void setShare(int b, int of, int hundredths) {
            if (isBank(b) && isBank(of)) {
                shares[b * BANKS + of] = hundredths;
            }
        }

        int sharesOutside(int of, int holder) {
            int sum = 0;
            for (int b = 0; b < BANKS; b++) {
                if (b != holder) {
                    sum += share(b, of);
                }
            }
            return sum;
        }

        int owesInAll(int b) {
            int sum = 0;
            if (b >= 0 && b < BANKS) {
                for (int to = 0; to < BANKS; to++) {
                    sum += debts[b * BANKS + to];
                }
            }
            return sum;
        }

        int isOwedInAll(int b) {
            int sum = 0;
            if (b >= 0 && b < BANKS) {
                for (int from = 0; from < BANKS; from++) {
                    sum += debts[from * BANKS + b];
                }
            }
            return sum;
        }

        int worth(int b) {
            return cashOf(b) + isOwedInAll(b) - owesInAll(b);
        }

        int allCash() {
            int sum = 0;
            for (int b = 0; b < BANKS; b++) {
                sum += cashOf(b);
            }
            return sum;
        }

        int allDebts() {
            int sum = 0;
            for (int b = 0; b < BANKS; b++) {
                sum += owesInAll(b);
            }
            return sum;
        }

        int debtsToSetOff() {
            int sum = 0;
            for (int b = 0; b < BANKS; b++) {
                for (int other = b + 1; other < BANKS; other++) {
                    sum += 2 * Math.min(debt(b, other), debt(other, b));
                }
            }
            return sum;
        }

        int controlledBy(int b) {
            int together = 1 << b;
            // Each round but the last one adds a bank.
            for (int round = 0; round < BANKS; round++) {
                for (int of = 0; of < BANKS; of++) {
                    if (2 * sharesOfAll(together, of) > ALL_SHARES) {
                        together |= 1 << of;
                    }
                }
            }
            return together & ~(1 << b);
        }

        private int sharesOfAll(int holders, int of) {
            int sum = 0;
            for (int b = 0; b < BANKS; b++) {
                if ((holders & (1 << b)) != 0) {
                    sum += share(b, of);
                }
            }
            return sum;
        }

        /** Shuts a bank; who shuts it in a month counts it as fallen. */
        void shutDown(int b) {
            if (!isBank(b)) {
                return;
            }
            openBits &= ~(1 << b);
            cash[b] = 0;
            for (int other = 0; other < BANKS; other++) {
                setDebt(b, other, 0);
                setDebt(other, b, 0);
                setShare(b, other, 0);
                setShare(other, b, 0);
            }
        }

        void join(int b, int other) {
            setCash(b, Math.min(MOST_CASH, cashOf(b) + cashOf(other)));
            for (int third = 0; third < BANKS; third++) {
                if (third != b && third != other) {
                    setDebt(b, third, Math.min(MOST_DEBT, debt(b, third) + debt(other, third)));
                    setDebt(third, b, Math.min(MOST_DEBT, debt(third, b) + debt(third, other)));
                    setShare(b, third, share(b, third) + share(other, third));
                }
            }
            // What is between the two, and what others have of the second one, goes with it.
            shutDown(other);
        }

        int draw() {
            x = (25173 * x + 13849) % 65536;
            return x % 10;
        }
    }

    /** Reads a ledger and does its lines, one by one, in a town that may be thrown away. */
    private static final class LedgerReader {
        private static final int MOST_LINES = 20;
        private static final int MOST_DIGITS = 3;

        private int other = 0;

        /** How many lines, or the fault. */
        int read(Tape text, int n, Town draft) {
            text.startText(n);
            // The line beyond the last one is always refused.
            for (int lines = 0; lines <= MOST_LINES; lines++) {
                if (!readLine(text, draft, lines)) {
                    return text.found;
                }
                if (text.isRead()) {
                    return lines + 1;
                }
                if (!text.expect(';')) {
                    return text.found;
                }
            }
            return text.found;
        }

        private boolean readLine(Tape text, Town draft, int linesAhead) {
            int start = text.place;
            int b = text.sign() - 'a';
            if (!isBank(b)) {
                return text.fail(1);
            }
            if (linesAhead >= MOST_LINES) {
                return text.fail(4);
            }
            if (!draft.isOpen(b)) {
                return text.fail(7);
            }
            text.step();
            int kind = text.sign();
            boolean ofTwo = kind == '>' || kind == '!';
            if (!ofTwo && kind != '+' && kind != '-') {
                return text.fail(1);
            }
            text.step();
            if (ofTwo && !readOther(text, draft, b)) {
                return false;
            }
            if (!text.readNumber(MOST_DIGITS)) {
                return false;
            }
            return carryOut(draft, b, kind, text.number) || text.failAt(9, start);
        }

        private boolean readOther(Tape text, Town draft, int b) {
            other = text.sign() - 'a';
            if (!isBank(other)) {
                return text.fail(1);
            }
            if (!draft.isOpen(other)) {
                return text.fail(7);
            }
            if (other == b) {
                return text.fail(6);
            }
            text.step();
            return text.expect(':');
        }

        private boolean carryOut(Town draft, int b, int kind, int n) {
            switch (kind) {
                case '+':
                    return addCash(draft, b, n);
                case '-':
                    return addCash(draft, b, -n);
                case '>':
                    return addCash(draft, b, -n) && addCash(draft, other, n);
                default:
                    return addDebt(draft, b, n);
            }
        }

        private boolean addCash(Town draft, int b, int more) {
            int much = draft.cashOf(b) + more;
            draft.setCash(b, much);
            return much >= 0 && much <= MOST_CASH;
        }

        private boolean addDebt(Town draft, int b, int more) {
            int debt = draft.debt(b, other) + more;
            draft.setDebt(b, other, debt);
            return debt <= MOST_DEBT;
        }
    }

    /** A law made ready to be reckoned: each part of a rule as signs that stand behind what they work on. */
    private static final class Law {
        private static final int MOST_RULES = 16;
        // Each byte of a text makes two signs at most.
        private static final int ROOM = 2 * MOST_LAW_BYTES;

        private final int[] letters = new int[MOST_RULES];
        private final int[] amountStarts = new int[MOST_RULES];
        private final int[] caseStarts = new int[MOST_RULES];
        private final int[] ends = new int[MOST_RULES];
        private final int[] signs = new int[ROOM];
        private int rules = 0;
        private int size = 0;

        void clear() {
            rules = 0;
            size = 0;
        }

        void copyFrom(Law other) {
            System.arraycopy(other.letters, 0, letters, 0, MOST_RULES);
            System.arraycopy(other.amountStarts, 0, amountStarts, 0, MOST_RULES);
            System.arraycopy(other.caseStarts, 0, caseStarts, 0, MOST_RULES);
            System.arraycopy(other.ends, 0, ends, 0, MOST_RULES);
            System.arraycopy(other.signs, 0, signs, 0, ROOM);
            rules = other.rules;
            size = other.size;
        }

        void startRule(int letter) {
            if (rules < MOST_RULES) {
                letters[rules] = letter;
                amountStarts[rules] = size;
            }
        }

        void startCase() {
            if (rules < MOST_RULES) {
                caseStarts[rules] = size;
            }
        }

        void endRule() {
            if (rules < MOST_RULES) {
                ends[rules] = size;
                rules++;
            }
        }

        void add(int sign) {
            if (size < ROOM) {
                signs[size] = sign;
                size++;
            }
        }

        void set(int place, int value) {
            if (place >= 0 && place < ROOM) {
                signs[place] = value;
            }
        }

        int sign(int place) {
            return place >= 0 && place < ROOM ? signs[place] : NONE;
        }
    }

    /** Reads the text of a law. A sign is written behind what it works on; & and | tell where to go on. */
    private static final class LawReader {
        private static final int MOST_OPEN = 6;
        private static final int MOST_DIGITS = 5;

        private final Law draft = new Law();

        /** How many rules, or the fault. */
        int read(Tape text, int n) {
            text.startText(n);
            draft.clear();
            // The rule beyond the last one is always refused.
            for (int rules = 0; rules <= Law.MOST_RULES; rules++) {
                if (!readRule(text)) {
                    return text.found;
                }
                if (text.isRead()) {
                    return draft.rules;
                }
                if (!text.expect(';')) {
                    return text.found;
                }
            }
            return text.found;
        }

        private boolean readRule(Tape text) {
            int letter = text.sign();
            if (letter != 'f' && letter != 'w' && letter != 'q' && letter != 'i' && letter != 'x') {
                return text.fail(1);
            }
            if (draft.rules >= Law.MOST_RULES) {
                return text.fail(4);
            }
            text.step();
            draft.startRule(letter);
            if (letter != 'x' && !readSum(text, 0)) {
                return false;
            }
            draft.startCase();
            if (!text.expect('(') || !readCase(text, 1) || !text.expect(')')) {
                return false;
            }
            draft.endRule();
            return true;
        }

        private boolean readCase(Tape text, int open) {
            if (!readPart(text, open)) {
                return false;
            }
            for (int i = 0; i < MOST_LAW_BYTES && text.sign() == '|'; i++) {
                int link = startLink(text, '|');
                if (!readPart(text, open)) {
                    return false;
                }
                draft.set(link, draft.size);
            }
            return true;
        }

        private boolean readPart(Tape text, int open) {
            if (!readTest(text, open)) {
                return false;
            }
            for (int i = 0; i < MOST_LAW_BYTES && text.sign() == '&'; i++) {
                int link = startLink(text, '&');
                if (!readTest(text, open)) {
                    return false;
                }
                draft.set(link, draft.size);
            }
            return true;
        }

        /** Where the place to go on at is to be written, as soon as it is known. */
        private int startLink(Tape text, int sign) {
            text.step();
            draft.add(sign);
            draft.add(0);
            return draft.size - 1;
        }

        private boolean readTest(Tape text, int open) {
            int first = text.sign();
            if (first == '!' || first == '(') {
                return readOpened(text, first, open);
            }
            if (!readSum(text, open)) {
                return false;
            }
            int sign = text.sign();
            if (sign != '<' && sign != '>' && sign != '=') {
                return text.fail(1);
            }
            text.step();
            if (!readSum(text, open)) {
                return false;
            }
            draft.add(sign);
            return true;
        }

        private boolean readOpened(Tape text, int first, int open) {
            if (open >= MOST_OPEN) {
                return text.fail(5);
            }
            text.step();
            if (first == '(') {
                return readCase(text, open + 1) && text.expect(')');
            }
            if (!readTest(text, open + 1)) {
                return false;
            }
            draft.add('!');
            return true;
        }

        private boolean readSum(Tape text, int open) {
            if (!readTerm(text, open)) {
                return false;
            }
            for (int i = 0; i < MOST_LAW_BYTES; i++) {
                int sign = text.sign();
                if (sign != '+' && sign != '-') {
                    return true;
                }
                text.step();
                if (!readTerm(text, open)) {
                    return false;
                }
                draft.add(sign);
            }
            return true;
        }

        private boolean readTerm(Tape text, int open) {
            if (!readFactor(text, open)) {
                return false;
            }
            for (int i = 0; i < MOST_LAW_BYTES; i++) {
                int sign = text.sign();
                if (sign != '*' && sign != '/' && sign != '%') {
                    return true;
                }
                text.step();
                if (!readFactor(text, open)) {
                    return false;
                }
                draft.add(sign);
            }
            return true;
        }

        private boolean readFactor(Tape text, int open) {
            int sign = text.sign();
            if (sign == '[') {
                if (open >= MOST_OPEN) {
                    return text.fail(5);
                }
                text.step();
                return readSum(text, open + 1) && text.expect(']');
            }
            if (isAskedLetter(sign)) {
                text.step();
                draft.add(sign);
                return true;
            }
            if (!text.readNumber(MOST_DIGITS)) {
                return false;
            }
            draft.add('0');
            draft.add(text.number);
            return true;
        }

        private boolean isAskedLetter(int sign) {
            return sign == 'b' || sign == 'c' || sign == 'o' || sign == 'g' || sign == 'e' || sign == 'd'
                || sign == 'm';
        }
    }

    /** Asks a law about a bank or a debt of a town. */
    private static final class Asker {
        // Six brackets, with two numbers waiting ahead of each, stay far below this.
        private static final int ROOM = 32;

        private final int[] stack = new int[ROOM];
        private int top = 0;
        private boolean refused = false;
        private int b = 0;
        private int to = 0;
        private int debt = 0;

        void askOfBank(int bank) {
            askOfDebt(bank, 0, 0);
        }

        void askOfDebt(int bank, int creditor, int much) {
            b = bank;
            to = creditor;
            debt = much;
        }

        /** What the first rule of a letter whose case holds says, within its bounds. */
        int amount(Law law, Town town, int letter, int most) {
            for (int rule = 0; rule < Law.MOST_RULES && rule < law.rules; rule++) {
                if (law.letters[rule] == letter
                    && reckon(law, town, law.caseStarts[rule], law.ends[rule]) != 0) {
                    int amount = reckon(law, town, law.amountStarts[rule], law.caseStarts[rule]);
                    return Math.max(0, Math.min(most, amount));
                }
            }
            return 0;
        }

        boolean anyHolds(Law law, Town town, int letter) {
            for (int rule = 0; rule < Law.MOST_RULES && rule < law.rules; rule++) {
                if (law.letters[rule] == letter
                    && reckon(law, town, law.caseStarts[rule], law.ends[rule]) != 0) {
                    return true;
                }
            }
            return false;
        }

        /** What stands from a place up to another one, 0 if it is refused. */
        private int reckon(Law law, Town town, int from, int end) {
            top = 0;
            refused = false;
            int place = from;
            while (place < end && !refused) {
                int sign = law.sign(place);
                place++;
                if (sign == '0') {
                    push(law.sign(place));
                    place++;
                } else if (sign == '&' || sign == '|') {
                    // What stands behind is not asked where the one ahead tells enough.
                    boolean isEnough = (topmost() != 0) == (sign == '|');
                    int link = law.sign(place);
                    place++;
                    if (!isEnough) {
                        pop();
                    } else if (link > place) {
                        place = link;
                    }
                } else if (sign >= 'a' && sign <= 'z') {
                    push(valueOf(town, sign));
                } else {
                    doSign(sign);
                }
            }
            return refused ? 0 : topmost();
        }

        private void push(int value) {
            if (top < ROOM) {
                stack[top] = value;
                top++;
            }
        }

        private int topmost() {
            return top > 0 ? stack[top - 1] : 0;
        }

        private int pop() {
            int value = topmost();
            if (top > 0) {
                top--;
            }
            return value;
        }

        private int valueOf(Town town, int letter) {
            switch (letter) {
                case 'b':
                    return b;
                case 'c':
                    return town.cashOf(b);
                case 'o':
                    return town.owesInAll(b);
                case 'g':
                    return town.isOwedInAll(b);
                case 'e':
                    return to;
                case 'd':
                    return debt;
                case 'm':
                    return town.month % 12;
                default:
                    return 0;
            }
        }

        private void doSign(int sign) {
            int right = pop();
            if (sign == '!') {
                push(right == 0 ? 1 : 0);
                return;
            }
            int left = pop();
            switch (sign) {
                case '+':
                    push(left + right);
                    break;
                case '-':
                    push(left - right);
                    break;
                case '*':
                    push(left * right);
                    break;
                case '<':
                    push(left < right ? 1 : 0);
                    break;
                case '>':
                    push(left > right ? 1 : 0);
                    break;
                case '=':
                    push(left == right ? 1 : 0);
                    break;
                default:
                    divide(sign, left, right);
                    break;
            }
        }

        private void divide(int sign, int left, int right) {
            if (right == 0) {
                refused = true;
            } else {
                push(sign == '/' ? left / right : left % right);
            }
        }
    }

    /** Lets months go by in a town and counts what happens. */
    private static final class Months {
        private static final int MOST_FLOW = 999;
        private static final int MOST_TENTHS = 10;
        private static final int MOST_GROWTH = 99;

        private int shut = 0;
        private int runs = 0;

        void run(Town town, Law law, Asker asker, int n) {
            shut = 0;
            runs = 0;
            for (int i = 0; i < n && town.month < MOST_MONTH; i++) {
                letCashFlow(town, law, asker);
                letDebtsGrow(town, law, asker);
                shutByLaw(town, law, asker);
                town.month++;
            }
        }

        private void letCashFlow(Town town, Law law, Asker asker) {
            for (int b = 0; b < BANKS; b++) {
                if (town.isOpen(b)) {
                    asker.askOfBank(b);
                    int fees = asker.amount(law, town, 'f', MOST_FLOW);
                    int withdrawn = asker.amount(law, town, 'w', MOST_FLOW);
                    int tenths = asker.amount(law, town, 'q', MOST_TENTHS);
                    if (town.draw() < tenths) {
                        runs++;
                        withdrawn = 2 * withdrawn;
                    }
                    int left = Math.min(MOST_CASH, town.cashOf(b) + fees) - withdrawn;
                    if (left < 0) {
                        letFall(town, b);
                    } else {
                        town.setCash(b, left);
                    }
                }
            }
        }

        private void letDebtsGrow(Town town, Law law, Asker asker) {
            for (int b = 0; b < BANKS; b++) {
                for (int to = 0; to < BANKS; to++) {
                    int debt = town.debt(b, to);
                    if (debt > 0) {
                        asker.askOfDebt(b, to, debt);
                        int growth = asker.amount(law, town, 'i', MOST_GROWTH);
                        town.setDebt(b, to, Math.min(MOST_DEBT, debt + growth));
                    }
                }
            }
        }

        private void shutByLaw(Town town, Law law, Asker asker) {
            for (int b = 0; b < BANKS; b++) {
                if (town.isOpen(b)) {
                    asker.askOfBank(b);
                    if (asker.anyHolds(law, town, 'x')) {
                        letFall(town, b);
                    }
                }
            }
        }

        private void letFall(Town town, int b) {
            town.shutDown(b);
            town.fallen++;
            shut++;
        }
    }

    /** All pay at once, from all paying all downwards till nobody pays less. */
    private static final class Clearing {
        // Each round but the last one takes at least 1 off what is paid in all, 55944 at most.
        private static final int MOST_ROUNDS = 1000000;

        private final int[] debts = new int[BANKS * BANKS];
        private final int[] cash = new int[BANKS];
        private final int[] owed = new int[BANKS];
        private final int[] paid = new int[BANKS];
        private final int[] gotten = new int[BANKS];
        private final int[] falls = new int[BANKS];
        private int rounds = 0;

        void takeIn(Town town) {
            for (int b = 0; b < BANKS; b++) {
                cash[b] = town.cashOf(b);
                owed[b] = town.owesInAll(b);
                for (int to = 0; to < BANKS; to++) {
                    debts[b * BANKS + to] = town.debt(b, to);
                }
            }
        }

        void strike(int b, int much) {
            if (isBank(b)) {
                cash[b] = Math.max(0, cash[b] - much);
            }
        }

        void payAtOnce() {
            rounds = 0;
            for (int b = 0; b < BANKS; b++) {
                paid[b] = owed[b];
                falls[b] = 0;
            }
            for (int round = 1; round <= MOST_ROUNDS; round++) {
                handOut();
                if (!payLess(round)) {
                    return;
                }
                rounds = round;
            }
        }

        private void handOut() {
            for (int to = 0; to < BANKS; to++) {
                gotten[to] = 0;
            }
            for (int b = 0; b < BANKS; b++) {
                if (owed[b] > 0) {
                    for (int to = 0; to < BANKS; to++) {
                        gotten[to] += debts[b * BANKS + to] * paid[b] / owed[b];
                    }
                }
            }
        }

        private boolean payLess(int round) {
            boolean less = false;
            for (int b = 0; b < BANKS; b++) {
                int can = Math.min(owed[b], cash[b] + gotten[b]);
                if (can < paid[b]) {
                    less = true;
                    paid[b] = can;
                    if (falls[b] == 0) {
                        falls[b] = round;
                    }
                }
            }
            return less;
        }

        int paidBy(int b) {
            return isBank(b) ? paid[b] : 0;
        }

        int gottenBy(int b) {
            return isBank(b) ? gotten[b] : 0;
        }

        /** In which round a bank first paid less, 0 if in none. */
        int roundOfFall(int b) {
            return isBank(b) ? falls[b] : 0;
        }

        int fallen() {
            int bits = 0;
            for (int b = 0; b < BANKS; b++) {
                if (falls[b] > 0) {
                    bits |= 1 << b;
                }
            }
            return bits;
        }
    }

    /** How wide the widest walk by just so many debts is, from one bank to each. */
    private static final class Roads {
        private static final int WIDEST = 1000;

        private final int[] widths = new int[(BANKS + 1) * BANKS];

        void walkFrom(Town town, int start) {
            for (int b = 0; b < BANKS; b++) {
                widths[b] = b == start ? WIDEST : 0;
            }
            for (int steps = 1; steps <= BANKS; steps++) {
                for (int to = 0; to < BANKS; to++) {
                    widths[steps * BANKS + to] = widestStep(town, steps, to);
                }
            }
        }

        private int widestStep(Town town, int steps, int to) {
            int widest = 0;
            for (int from = 0; from < BANKS; from++) {
                widest = Math.max(widest, Math.min(width(steps - 1, from), town.debt(from, to)));
            }
            return widest;
        }

        int width(int steps, int to) {
            return steps >= 0 && steps <= BANKS && isBank(to) ? widths[steps * BANKS + to] : 0;
        }

        /** A shortest way back to the start meets nobody twice; 0 if there is none. */
        int fewestStepsTo(int to) {
            for (int steps = 1; steps <= BANKS; steps++) {
                if (width(steps, to) > 0) {
                    return steps;
                }
            }
            return 0;
        }

        int stepsOfWidestTo(int to) {
            int best = 0;
            int widest = 0;
            for (int steps = 1; steps <= BANKS; steps++) {
                if (width(steps, to) > widest) {
                    widest = width(steps, to);
                    best = steps;
                }
            }
            return best;
        }
    }

    /** Parts banks into groups that come to 0, or into twos and single ones. */
    private static final class Parting {
        private static final int SETS = 1 << BANKS;
        // There are four twos at most, so a bad one weighs more than all twos.
        private static final int WEIGHT_OF_BAD = 16;

        private final int[] worths = new int[BANKS];
        private final int[] sums = new int[SETS];
        private final int[] best = new int[SETS];
        private int unsettled = 0;

        /** Into how many groups that come to 0 the unsettled can be parted at most. */
        int groupsOf(Town town) {
            int all = 0;
            unsettled = 0;
            for (int b = 0; b < BANKS; b++) {
                worths[b] = town.isOwedInAll(b) - town.owesInAll(b);
                if (worths[b] != 0) {
                    all |= 1 << b;
                    unsettled++;
                }
            }
            sums[0] = 0;
            best[0] = 0;
            for (int set = 1; set < SETS; set++) {
                sums[set] = sumOfWorths(set);
                best[set] = bestWithoutOne(set) + (sums[set] == 0 ? 1 : 0);
            }
            return best[all];
        }

        private int sumOfWorths(int set) {
            int sum = 0;
            for (int b = 0; b < BANKS; b++) {
                if ((set & (1 << b)) != 0) {
                    sum += worths[b];
                }
            }
            return sum;
        }

        private int bestWithoutOne(int set) {
            int most = 0;
            for (int b = 0; b < BANKS; b++) {
                if ((set & (1 << b)) != 0) {
                    most = Math.max(most, best[set & ~(1 << b) & (SETS - 1)]);
                }
            }
            return most;
        }

        void pairUp(Town town, int banks) {
            for (int b = 0; b < BANKS; b++) {
                worths[b] = town.worth(b);
            }
            best[0] = 0;
            for (int set = 1; set < SETS; set++) {
                if ((set & ~banks) == 0) {
                    best[set] = leastCost(set);
                }
            }
        }

        private int leastCost(int set) {
            int first = lowestOf(set);
            int others = set & ~(1 << first) & (SETS - 1);
            int least = best[others] + costOf(worths[first]);
            for (int b = first + 1; b < BANKS; b++) {
                if ((others & (1 << b)) != 0) {
                    int cost = best[others & ~(1 << b)] + costOf(worths[first] + worths[b]) + 1;
                    least = Math.min(least, cost);
                }
            }
            return least;
        }

        private int lowestOf(int set) {
            int lowest = 0;
            while (lowest < BANKS - 1 && (set & (1 << lowest)) == 0) {
                lowest++;
            }
            return lowest;
        }

        private int costOf(int worth) {
            return worth < 0 ? WEIGHT_OF_BAD : 0;
        }

        int badOf(int banks) {
            return best[banks & (SETS - 1)] / WEIGHT_OF_BAD;
        }

        int twosOf(int banks) {
            return best[banks & (SETS - 1)] % WEIGHT_OF_BAD;
        }
    }

    /** What toads blink: the codes of signs, texts of blinks, and the shortest codes. */
    private static final class Codes {
        private static final int MOST_BLINKS = 6;
        private static final int MOST_WAYS = 1000000000;
        private static final int FAR = 1000000;

        private final int[] lengths = new int[SIGNS];
        private final int[] blinksOfSigns = new int[SIGNS * MOST_BLINKS];
        private final int[] ways = new int[MOST_TEXT_BLINKS + 1];
        private final int[] fewest = new int[MOST_TEXT_BLINKS + 1];
        private final int[] weights = new int[SIGNS];
        private final int[] costs = new int[SIGNS * SIGNS];

        void tell(int sign, Tape text, int n) {
            if (sign < 0 || sign >= SIGNS || n > MOST_BLINKS) {
                return;
            }
            lengths[sign] = n;
            for (int i = 0; i < n; i++) {
                blinksOfSigns[sign * MOST_BLINKS + i] = text.at(i);
            }
        }

        int lengthOf(int sign) {
            return sign >= 0 && sign < SIGNS ? lengths[sign] : 0;
        }

        private int blinkOf(int sign, int i) {
            boolean isThere = sign >= 0 && sign < SIGNS && i >= 0 && i < MOST_BLINKS;
            return isThere ? blinksOfSigns[sign * MOST_BLINKS + i] : NONE;
        }

        int toldBits() {
            int bits = 0;
            for (int sign = 0; sign < SIGNS; sign++) {
                if (lengths[sign] > 0) {
                    bits |= 1 << sign;
                }
            }
            return bits;
        }

        /** Reads from the end, so that each place tells of all that stands behind it. */
        void readAll(Tape text, int n) {
            int end = Math.min(n, MOST_TEXT_BLINKS);
            for (int place = 0; place <= MOST_TEXT_BLINKS; place++) {
                ways[place] = place == end ? 1 : 0;
                fewest[place] = place == end ? 0 : FAR;
            }
            for (int place = end - 1; place >= 0; place--) {
                for (int sign = 0; sign < SIGNS; sign++) {
                    if (standsAt(text, end, place, sign)) {
                        int behind = place + lengthOf(sign);
                        ways[place] = Math.min(MOST_WAYS, ways[place] + waysFrom(behind));
                        fewest[place] = Math.min(fewest[place], stepsFrom(behind) + 1);
                    }
                }
            }
        }

        private boolean standsAt(Tape text, int end, int place, int sign) {
            int length = lengthOf(sign);
            if (length == 0 || place + length > end) {
                return false;
            }
            for (int i = 0; i < length; i++) {
                if (text.at(place + i) != blinkOf(sign, i)) {
                    return false;
                }
            }
            return true;
        }

        int waysFrom(int place) {
            return place >= 0 && place <= MOST_TEXT_BLINKS ? ways[place] : 0;
        }

        private int stepsFrom(int place) {
            return place >= 0 && place <= MOST_TEXT_BLINKS ? fewest[place] : FAR;
        }

        /** NONE if it can't be read. */
        int fewestFrom(int place) {
            int steps = stepsFrom(place);
            return steps < FAR ? steps : NONE;
        }

        /** The sign at a place of the least of the shortest rows. */
        int signAtPlace(Tape text, int n, int which) {
            int place = 0;
            int sign = NONE;
            for (int i = 0; i <= which && i < MOST_TEXT_BLINKS; i++) {
                sign = leastSignAt(text, n, place);
                place += lengthOf(sign);
            }
            return sign;
        }

        private int leastSignAt(Tape text, int n, int place) {
            for (int sign = 0; sign < SIGNS; sign++) {
                if (standsAt(text, n, place, sign)
                    && stepsFrom(place + lengthOf(sign)) == stepsFrom(place) - 1) {
                    return sign;
                }
            }
            return NONE;
        }

        boolean areReadAtOnce() {
            for (int sign = 0; sign < SIGNS; sign++) {
                for (int other = 0; other < SIGNS; other++) {
                    if (sign != other && begins(sign, other)) {
                        return false;
                    }
                }
            }
            return true;
        }

        private boolean begins(int sign, int other) {
            int length = lengthOf(sign);
            if (length == 0 || length > lengthOf(other)) {
                return false;
            }
            for (int i = 0; i < length; i++) {
                if (blinkOf(sign, i) != blinkOf(other, i)) {
                    return false;
                }
            }
            return true;
        }

        /** Always the two rarest are put together; each time all in them get one blink more. */
        int shortestOf(Tape text, int n) {
            int many = Math.min(n, SIGNS);
            for (int i = 0; i < many; i++) {
                weights[i] = text.at(i);
            }
            int sum = 0;
            for (int left = many; left > 1; left--) {
                moveLeastToEnd(left);
                moveLeastToEnd(left - 1);
                int both = weights[left - 1] + weights[left - 2];
                weights[left - 2] = both;
                sum += both;
            }
            return sum;
        }

        private void moveLeastToEnd(int many) {
            for (int i = 0; i + 1 < many && i + 1 < SIGNS; i++) {
                if (weights[i] < weights[i + 1]) {
                    int lesser = weights[i];
                    weights[i] = weights[i + 1];
                    weights[i + 1] = lesser;
                }
            }
        }

        int shortestInOrder(Tape text, int n) {
            int many = Math.min(n, SIGNS);
            for (int span = 1; span <= many; span++) {
                for (int first = 0; first + span <= many; first++) {
                    int last = first + span - 1;
                    costs[first * SIGNS + last] = span == 1 ? 0 : costOfSpan(text, first, last);
                }
            }
            return cost(0, many - 1);
        }

        private int costOfSpan(Tape text, int first, int last) {
            int least = FAR;
            int sum = 0;
            for (int middle = first; middle <= last; middle++) {
                sum += text.at(middle);
                if (middle < last) {
                    least = Math.min(least, cost(first, middle) + cost(middle + 1, last));
                }
            }
            return least + sum;
        }

        private int cost(int first, int last) {
            boolean isThere = first >= 0 && first < SIGNS && last >= 0 && last < SIGNS;
            return isThere ? costs[first * SIGNS + last] : 0;
        }
    }
}
