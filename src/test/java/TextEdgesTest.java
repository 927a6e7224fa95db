/** What can stand where in a text, byte for byte, and the lengths, lines, rules, digits and depths a text may have. */
final class TextEdgesTest {
    private static final Due DUE = new Due();
    private static final String DIGITS = "0123456789";
    private static final String FACTOR = DIGITS + "[bcogedm";
    private static final String TEST = FACTOR + "!(";
    private static final String SIGNS = "+-*/%";
    private static final String RULE = "fwqix";
    private static final String BANK = "abcdefgh";

    public static void main(String[] args) {
        ledgerBytes();
        lawBytesOfSums();
        lawBytesOfCases();
        blinkBytes();
        ledgerLengths();
        ledgerDigits();
        ledgerLines();
        ledgerCash();
        ledgerDebts();
        ledgerOrderOfFaults();
        lawLengths();
        lawDigits();
        lawRules();
        lawDepths();
        codeLengths();
        blinkLengths();
        DUE.end();
    }

    private static ToadBank richTown() {
        return Due.town(5000, 5000, 5000, 5000, 5000, 5000, 5000, 5000);
    }

    private static String many(int n, String part) {
        StringBuilder text = new StringBuilder();
        for (int i = 0; i < n; i++) {
            text.append(part);
        }
        return text.toString();
    }

    // ---- FAULT 1: what can't stand there (the end, too)

    /** Behind a prefix just the allowed bytes can stand; the end can as told. */
    private static void ledgerAt(String prefix, String allowed, boolean canEnd) {
        int place = prefix.length();
        for (int sign = 0; sign < 256; sign++) {
            int got = Due.ledger(richTown(), prefix + (char) sign);
            DUE.is("ledger " + prefix + " then " + sign, got == -1000 - place, allowed.indexOf(sign) < 0);
        }
        if (place > 0) {
            DUE.is("ledger " + prefix + " ends", Due.ledger(richTown(), prefix) == -1000 - place, !canEnd);
        }
    }

    private static void ledgerBytes() {
        ledgerAt("", BANK, false);
        ledgerAt("a", ">!+-", false);
        ledgerAt("h+", DIGITS, false);
        ledgerAt("h-", DIGITS, false);
        ledgerAt("h-1", DIGITS + ";", true);
        ledgerAt("h-12", DIGITS + ";", true);
        ledgerAt("h-123", DIGITS + ";", true);
        ledgerAt("h-123;", BANK, false);
        ledgerAt("a>", BANK, false);
        ledgerAt("a>b", ":", false);
        ledgerAt("a>b:", DIGITS, false);
        ledgerAt("a>b:0", DIGITS + ";", true);
        ledgerAt("a!", BANK, false);
        ledgerAt("a!h", ":", false);
        ledgerAt("a!h:", DIGITS, false);
        ledgerAt("a!h:999", DIGITS + ";", true);
        ledgerAt("a!h:999;b", ">!+-", false);
    }

    private static void lawAt(String prefix, String allowed, boolean canEnd) {
        int place = prefix.length();
        for (int sign = 0; sign < 256; sign++) {
            int got = Due.law(new ToadBank(), prefix + (char) sign);
            DUE.is("law " + prefix + " then " + sign, got == -1000 - place, allowed.indexOf(sign) < 0);
        }
        if (place > 0) {
            DUE.is("law " + prefix + " ends", Due.law(new ToadBank(), prefix) == -1000 - place, !canEnd);
        }
    }

    private static void lawBytesOfSums() {
        lawAt("", RULE, false);
        lawAt("f", FACTOR, false);
        lawAt("w", FACTOR, false);
        lawAt("q", FACTOR, false);
        lawAt("i", FACTOR, false);
        lawAt("x", "(", false);
        lawAt("f1", DIGITS + SIGNS + "(", false);
        lawAt("f12345", DIGITS + SIGNS + "(", false);
        lawAt("fb", SIGNS + "(", false);
        for (int i = 0; i < SIGNS.length(); i++) {
            lawAt("f1" + SIGNS.charAt(i), FACTOR, false);
        }
        lawAt("f1+1*1", DIGITS + SIGNS + "(", false);
        lawAt("f[", FACTOR, false);
        lawAt("f[1", DIGITS + SIGNS + "]", false);
        lawAt("f[m", SIGNS + "]", false);
        lawAt("f[m]", SIGNS + "(", false);
        lawAt("f[[m]", SIGNS + "]", false);
    }

    private static void lawBytesOfCases() {
        lawAt("x(", TEST, false);
        lawAt("x((", TEST, false);
        lawAt("x(!", TEST, false);
        lawAt("x(b", SIGNS + "<>=", false);
        lawAt("x(1", DIGITS + SIGNS + "<>=", false);
        lawAt("x([b", SIGNS + "]", false);
        lawAt("x([b]", SIGNS + "<>=", false);
        lawAt("x(b+1", DIGITS + SIGNS + "<>=", false);
        lawAt("x(b=", FACTOR, false);
        lawAt("x(b<", FACTOR, false);
        lawAt("x(b>", FACTOR, false);
        lawAt("x(b=b", SIGNS + "&|)", false);
        lawAt("x(b=b*1", DIGITS + SIGNS + "&|)", false);
        lawAt("x(!b=b", SIGNS + "&|)", false);
        lawAt("x((b=b", SIGNS + "&|)", false);
        lawAt("x((b=b)", "&|)", false);
        lawAt("x(!(b=b)", "&|)", false);
        lawAt("x(b=b&", TEST, false);
        lawAt("x(b=b|", TEST, false);
        lawAt("x(b=b&b=b", SIGNS + "&|)", false);
        lawAt("x(b=b)", ";", true);
        lawAt("x(b=b);", RULE, false);
        lawAt("f1(b=b);x(b=b)", ";", true);
    }

    private static void blinkBytes() {
        for (int place = 0; place < 6; place++) {
            for (int sign = 0; sign < 256; sign++) {
                String text = many(place, ".") + (char) sign;
                boolean stands = sign == '.' || sign == '-';
                ToadBank x = new ToadBank();
                DUE.is("code with " + sign, Due.code(x, 3, text), stands ? place + 1 : -1000 - place);
                DUE.is("told", x.count(4), stands ? 8 : 0);
                DUE.is("blinks with " + sign, Due.blinks(x, text, 100), stands ? 1 : -1000 - place);
            }
        }
    }

    // ---- LEDGERS: bytes, digits, lines

    private static void ledgerLengths() {
        // 15 lines of seven bytes or six and what stands between.
        String text = many(8, "a>b:001;") + many(7, "a>b:01;") + "a>b:01";
        DUE.is("length", text.length(), 119);
        ToadBank x = richTown();
        DUE.is("119", Due.ledger(x, text), 16);
        DUE.is("done", x.bankIs(1, 0), 5016);
        DUE.is("120, the last line by 10", Due.ledger(x, text + "0"), 16);
        DUE.is("done", x.bankIs(1, 0), 5041);
        DUE.is("120, the last one wrong", Due.ledger(x, text + ";"), -1120);
        DUE.is("121", Due.ledger(x, text + "00"), -1);
        DUE.is("tape stays", x.count(6), 140);
        DUE.is("so 120 of it", x.ledger(120), 16);
        DUE.is("empty then", x.count(6), 0);
        DUE.is("least", Due.ledger(x, "a"), -1001);
        Due.feedBytes(x, Due.bytesOf("a+1"));
        DUE.is("0", x.ledger(0), -1);
        DUE.is("-1", x.ledger(-1), -1);
        DUE.is("one more than it has", x.ledger(21), -1);
        DUE.is("as many as it has", x.ledger(20), -1003);
        DUE.is("empty then", x.ledger(1), -1);
    }

    private static void ledgerDigits() {
        String[] heads = {"a+", "a-", "a>b:", "a!b:"};
        for (String head : heads) {
            int at = head.length();
            DUE.is("none", Due.ledger(richTown(), head), -1000 - at);
            DUE.is("none", Due.ledger(richTown(), head + ";"), -1000 - at);
            DUE.is("one", Due.ledger(richTown(), head + "9"), 1);
            DUE.is("two", Due.ledger(richTown(), head + "99"), 1);
            DUE.is("three", Due.ledger(richTown(), head + "999"), 1);
            DUE.is("four", Due.ledger(richTown(), head + "9999"), -2003 - at);
            DUE.is("four, by 0", Due.ledger(richTown(), head + "0000"), -2003 - at);
            DUE.is("five", Due.ledger(richTown(), head + "00000"), -2003 - at);
        }
        ToadBank x = richTown();
        Due.ledger(x, "a+009;b+90;c+900;d+0;e-000");
        int[] want = {5009, 5090, 5900, 5000, 5000};
        for (int b = 0; b < want.length; b++) {
            DUE.is("cash of " + b, x.bankIs(b, 0), want[b]);
        }
    }

    private static void ledgerLines() {
        ToadBank x = richTown();
        DUE.is("1", Due.ledger(x, "a+1"), 1);
        DUE.is("19", Due.ledger(x, many(18, "a+1;") + "a+1"), 19);
        DUE.is("20", Due.ledger(x, many(19, "a+1;") + "a+1"), 20);
        DUE.is("forty in all", x.bankIs(0, 0), 5040);
        DUE.is("21", Due.ledger(x, many(20, "a+1;") + "a+1"), -4080);
        DUE.is("22", Due.ledger(x, many(21, "a+1;") + "a+1"), -4080);
        for (int sign = 0; sign < 256; sign++) {
            int want = BANK.indexOf(sign) >= 0 ? -4080 : -1080;
            DUE.is("21 by " + sign, Due.ledger(x, many(20, "a+1;") + (char) sign), want);
        }
        DUE.is("none was done", x.bankIs(0, 0), 5040);
        // FAULT 7 is behind 4, 9 of a line ahead is ahead of both.
        ToadBank one = Due.town(100);
        DUE.is("not told, 20th", Due.ledger(one, many(19, "a+1;") + "b"), -7076);
        DUE.is("not told, 21st", Due.ledger(one, many(20, "a+1;") + "b"), -4080);
        DUE.is("9 in the 20th", Due.ledger(one, many(19, "a+1;") + "a-999;b"), -9076);
    }

    /** CASH would be below 0, above 9999 (by LINES ahead, too). */
    private static void ledgerCash() {
        int[] ahead = {0, 1, 998, 999, 9000, 9998, 9999};
        for (int cash : ahead) {
            for (int n = 0; n <= 999; n += n == 1 ? 997 : 1) {
                String number = "" + n;
                boolean less = cash - n < 0;
                boolean more = cash + n > 9999;
                DUE.is(cash + "-" + n, Due.ledger(Due.town(cash), "a-" + number), less ? -9000 : 1);
                DUE.is(cash + "+" + n, Due.ledger(Due.town(cash), "a+" + number), more ? -9000 : 1);
                DUE.is(cash + " from", Due.ledger(Due.town(cash, 0), "a>b:" + number), less ? -9000 : 1);
                DUE.is(cash + " to", Due.ledger(Due.town(cash, 999), "b>a:" + number), more ? -9000 : 1);
            }
        }
        ToadBank x = Due.town(5, 9990);
        DUE.is("ahead in front", Due.ledger(x, "a+1;a-6;b+9"), 3);
        DUE.is("ahead in front", Due.ledger(x, "a+1;a-2;a+9"), -9004);
        DUE.is("none of it was done", x.bankIs(0, 0), 0);
        DUE.is("ahead in front", Due.ledger(x, "b-1;b+1;b+1"), -9008);
        DUE.is("none of it was done", x.bankIs(1, 0), 9999);
        DUE.is("both of it", Due.ledger(x, "b>a:0;b>a:1;a>b:1"), 3);
    }

    private static void ledgerDebts() {
        int[] ahead = {0, 1, 500, 998, 999};
        for (int debt : ahead) {
            for (int n : new int[] {0, 1, 2, 499, 500, 998, 999}) {
                ToadBank x = Due.town(0, 0);
                x.owe(0, 1, debt);
                boolean more = debt + n > 999;
                DUE.is(debt + "!" + n, Due.ledger(x, "a!b:" + n), more ? -9000 : 1);
                DUE.is("so it is", x.owes(0, 1), more ? debt : debt + n);
                DUE.is("not the other one", x.owes(1, 0), 0);
            }
        }
        ToadBank x = Due.town(0, 0);
        DUE.is("by lines ahead", Due.ledger(x, "a!b:900;b!a:900;a!b:99;a!b:1"), -9023);
        DUE.is("nothing was done", x.count(8), 0);
        DUE.is("by lines ahead", Due.ledger(x, "a!b:900;b!a:900;a!b:99;a!b:0"), 4);
        DUE.is("done", x.count(8), 1899);
    }

    private static void ledgerOrderOfFaults() {
        // a with 5, b not told, c with 9999, d shut.
        String[] texts = {"b", "b>", "bb", "a>b", "a>b;", "a!b:1", "a>a", "a>a;", "b>b:1", "d>d", "d+1", "a!d:1",
            "a-6", "a-6;", "a-6x", "a-06x", "a-0006", "a-006", "a-0066", "c+1", "c+1:", "a>c:1", "a>c:1b",
            "a>c:6", "a+1;b", "a+1;a-7", "a+1;a-6;d", "a+1;a>a", "a!c:1;a!c:999", "a>c:0000", "c>b:1", "c>i:1"};
        int[] want = {-7000, -7000, -7000, -7002, -7002, -7002, -6002, -6002, -7000, -7000, -7000, -7002,
            -9000, -9000, -9000, -9000, -2005, -9000, -2005, -9000, -9000, -9000, -9000,
            -9000, -7004, -9004, -7008, -6006, -9006, -2007, -7002, -1002};
        for (int i = 0; i < texts.length; i++) {
            ToadBank x = Due.town(5, -1, 9999, 0);
            x.merge(0, 3);
            DUE.is(texts[i], Due.ledger(x, texts[i]), want[i]);
            DUE.is("nothing done", x.bankIs(0, 0) + x.bankIs(2, 0) + x.count(8), 10004);
        }
    }

    // ---- THE LAW: bytes, digits, rules, depths

    private static void lawLengths() {
        ToadBank x = Due.town(0);
        String text = "f1" + many(116, "+1") + "(b=b)";
        DUE.is("length", text.length(), 239);
        DUE.is("239", Due.law(x, text), 1);
        DUE.is("as much", x.tried(1, 2), 117);
        text = "f10" + many(116, "+1") + "(b=b)";
        DUE.is("240", Due.law(x, text), 1);
        DUE.is("as much", x.tried(1, 2), 126);
        DUE.is("240, the last one wrong", Due.law(x, text.substring(0, 239) + "]"), -1239);
        DUE.is("240, the end", Due.law(x, "x(b=b);" + text.substring(7)), -1007);
        text = "f100" + many(116, "+1") + "(b=b)";
        DUE.is("241", Due.law(x, text), -1);
        DUE.is("tape stays", x.count(6), 260);
        DUE.is("so 240 of it", x.law(240), -1240);
        DUE.is("empty then", x.count(6), 0);
        DUE.is("the one before stays", x.tried(1, 2), 126);
        DUE.is("1", Due.law(x, "x"), -1001);
        Due.feedBytes(x, Due.bytesOf("x(b=b)"));
        DUE.is("0", x.law(0), -1);
        DUE.is("-1", x.law(-1), -1);
        DUE.is("one more than it has", x.law(21), -1);
        DUE.is("as many as it has", x.law(20), -1006);
        DUE.is("empty then", x.law(1), -1);
    }

    private static void lawDigits() {
        for (String head : new String[] {"f", "w", "q", "i", "f[", "fb*", "x(", "x(b=", "x([", "x(!"}) {
            for (int digits = 1; digits <= 7; digits++) {
                int got = Due.law(new ToadBank(), head + many(digits, "0"));
                int want = digits <= 5 ? -1000 - head.length() - digits : -2005 - head.length();
                DUE.is(digits + " digits behind " + head, got, want);
            }
        }
        ToadBank x = Due.town(0);
        DUE.is("five", Due.law(x, "f99999-99500(00499=499)"), 1);
        DUE.is("as much", x.tried(1, 2), 499);
    }

    private static void lawRules() {
        ToadBank x = Due.town(0);
        DUE.is("1", Due.law(x, "x(b=1)"), 1);
        DUE.is("15", Due.law(x, many(14, "x(b=1);") + "f7(b=0)"), 15);
        DUE.is("count", x.count(5), 15);
        DUE.is("16", Due.law(x, many(15, "x(b=1);") + "f8(b=0)"), 16);
        DUE.is("count", x.count(5), 16);
        DUE.is("the last one holds", x.tried(1, 2), 8);
        DUE.is("17", Due.law(x, many(16, "x(b=1);") + "f9(b=0)"), -4112);
        DUE.is("18", Due.law(x, many(17, "x(b=1);") + "f9(b=0)"), -4112);
        DUE.is("the one before stays", x.tried(1, 2), 8);
        for (int sign = 0; sign < 256; sign++) {
            int want = RULE.indexOf(sign) >= 0 ? -4112 : -1112;
            DUE.is("17 by " + sign, Due.law(x, many(16, "x(b=1);") + (char) sign), want);
        }
        DUE.is("count", x.count(5), 16);
    }

    /** A seventh of ( [ ! that are open in one another. */
    private static void lawDepths() {
        String[] opens = {"(", "!", "["};
        // The ( of the rule and up to six more, in all orders that can stand.
        for (int order = 0; order < 729; order++) {
            StringBuilder text = new StringBuilder("x(");
            StringBuilder close = new StringBuilder();
            boolean inSum = false;
            boolean canStand = true;
            int digits = order;
            for (int depth = 2; depth <= 7; depth++) {
                int kind = digits % 3;
                digits /= 3;
                canStand &= kind == 2 || !inSum;
                inSum |= kind == 2;
                text.append(opens[kind]);
                close.insert(0, kind == 0 ? ")" : kind == 1 ? "" : inSum && close.indexOf("]") < 0 ? "]=0" : "]");
                if (canStand && depth < 7) {
                    String whole = text + (inSum ? "1" : "1=0") + close + ")";
                    DUE.is(whole, Due.law(new ToadBank(), whole), 1);
                }
            }
            if (canStand) {
                DUE.is(text.toString(), Due.law(new ToadBank(), text.toString()), -5007);
                DUE.is(text + "1", Due.law(new ToadBank(), text + "1"), -5007);
            }
        }
        for (String letter : new String[] {"f", "w", "q", "i"}) {
            DUE.is("five", Due.law(new ToadBank(), letter + "[[[[[1]]]]](1=1)"), 1);
            DUE.is("six", Due.law(new ToadBank(), letter + "[[[[[[1]]]]]](1=1)"), 1);
            DUE.is("seven", Due.law(new ToadBank(), letter + "[[[[[[[1]]]]]]](1=1)"), -5007);
        }
        // What is closed is open no more.
        DUE.is("closed", Due.law(new ToadBank(), "x(((((((1=1)))))&(((((1=1))))))"), -5007);
        DUE.is("closed", Due.law(new ToadBank(), "x((((((1=1)))))&(((((1=1))))))"), 1);
        DUE.is("closed", Due.law(new ToadBank(), "x(!!!!!1=1&!!!!!1=1|!!!!!1=1)"), 1);
        DUE.is("closed", Due.law(new ToadBank(), "x([[[[[1]]]]]=[[[[[1]]]]]+[[[[[1]]]]])"), 1);
        DUE.is("closed", Due.law(new ToadBank(), "x(!!!!!1=1&!!!!!!1=1)"), -5016);
        DUE.is("closed", Due.law(new ToadBank(), "x([[[[[1]]]]]=[[[[[[1]]]]]])"), -5019);
    }

    // ---- CODES and what was blinked

    private static void codeLengths() {
        for (int sign = -1; sign <= 8; sign++) {
            for (int n = 0; n <= 7; n++) {
                ToadBank x = new ToadBank();
                x.feed(0x2e2d2e2d, 0x2e2d2e2d, 0, 0, 0);
                boolean can = sign >= 0 && sign < 8 && n >= 1 && n <= 6;
                DUE.is("code " + sign + " " + n, x.code(sign, n), can ? n : -1);
                DUE.is("told", x.count(4), can ? 1 << sign : 0);
                DUE.is("tape", x.count(6), can ? 0 : 20);
            }
        }
        // No more than the n of the tape is the code's.
        ToadBank x = new ToadBank();
        x.feed(0x2e2d2e2d, 0x2e2d2e2d, 0, 0, 0);
        x.code(0, 3);
        DUE.is("three", Due.blinks(x, ".-.", 101), 1);
        DUE.is("not four", Due.blinks(x, ".-.-", 101), -2);
        // In place of a longer one nothing of that one is left.
        Due.code(x, 0, "------");
        Due.code(x, 0, "-");
        DUE.is("a shorter one", Due.blinks(x, "-", 101), 1);
        DUE.is("six of it", Due.blinks(x, "------", 101), 6);
    }

    private static void blinkLengths() {
        ToadBank x = new ToadBank();
        Due.code(x, 5, ".");
        Due.code(x, 4, "------");
        DUE.is("1", Due.blinks(x, ".", 101), 1);
        DUE.is("59", Due.blinks(x, many(59, "."), 101), 59);
        DUE.is("60", Due.blinks(x, many(60, "."), 101), 60);
        DUE.is("61", Due.blinks(x, many(61, "."), 101), -1);
        DUE.is("tape stays", x.count(6), 80);
        DUE.is("so 60 of it", x.blinks(60, 59), 5);
        DUE.is("at the end", Due.blinks(x, many(54, ".") + "------", 101), 55);
        DUE.is("at the end", Due.blinks(x, many(54, ".") + "------", 54), 4);
        DUE.is("behind it", Due.blinks(x, many(54, ".") + "------", 55), -4);
        DUE.is("behind it", Due.blinks(x, many(54, ".") + "------", 59), -4);
        DUE.is("one too few", Due.blinks(x, many(55, ".") + "-----", 101), -2);
        DUE.is("fault at the last", Due.blinks(x, many(59, ".") + ",", 0), -1059);
        // Nine times ten ways: as many as are told at most, just so.
        ToadBank y = new ToadBank();
        for (int sign = 0; sign < 3; sign++) {
            Due.code(y, sign, ".");
        }
        Due.code(y, 3, "..");
        Due.code(y, 7, "-");
        DUE.is("ten to the eight", Due.blinks(y, many(7, "..-") + "..", 100), 100000000);
        DUE.is("nine times as much", Due.blinks(y, many(8, "..-") + ".-.", 100), 900000000);
        DUE.is("ten to the nine", Due.blinks(y, many(8, "..-") + "..", 100), 1000000000);
        DUE.is("more", Due.blinks(y, many(9, "..-") + ".", 100), 1000000000);
        DUE.is("ten to the twenty", Due.blinks(y, many(20, "..-"), 100), 1000000000);
    }
}
