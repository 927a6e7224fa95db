/** Promises 29 to 33: codes, what was blinked, the shortest codes. */
final class CodesTest {
    private static final Due DUE = new Due();

    public static void main(String[] args) {
        code();
        ways();
        rows();
        blinksRefused();
        atOnce();
        shortest();
        inOrder();
        DUE.end();
    }

    /** Promise 29. */
    private static void code() {
        ToadBank x = new ToadBank();
        DUE.is("one", Due.code(x, 0, "."), 1);
        DUE.is("six", Due.code(x, 7, ".-.-.-"), 6);
        DUE.is("told", x.count(4), 129);
        DUE.is("empty then", x.count(6), 0);
        DUE.is("blinks of 7", x.count(17), 6);
        DUE.is("blinks of 1", x.count(11), -1);
        DUE.is("in place", Due.code(x, 7, "--"), 2);
        DUE.is("blinks of 7", x.count(17), 2);
        DUE.is("fault", Due.code(x, 7, "..x"), -1002);
        DUE.is("fault", Due.code(x, 6, " "), -1000);
        DUE.is("fault", Due.code(x, 6, "-,.x"), -1001);
        DUE.is("empty then", x.count(6), 0);
        DUE.is("as before", x.count(17), 2);
        DUE.is("not told", x.count(16), -1);
        x.feed(0x2e2e2e2e, 0x2e2e2e2e, 0, 0, 0);
        DUE.is("7 blinks", x.code(0, 7), -1);
        DUE.is("0 blinks", x.code(0, 0), -1);
        DUE.is("sign 8", x.code(8, 1), -1);
        DUE.is("sign -1", x.code(-1, 1), -1);
        DUE.is("n MIN", x.code(0, Integer.MIN_VALUE), -1);
        DUE.is("tape stays", x.count(6), 20);
        DUE.is("the first two", x.code(0, 2), 2);
        DUE.is("not so many", x.code(0, 1), -1);
        DUE.is("as before", x.count(10), 2);
    }

    private static String many(int n, String blinks) {
        StringBuilder text = new StringBuilder();
        for (int i = 0; i < n; i++) {
            text.append(blinks);
        }
        return text.toString();
    }

    /** Promise 30. */
    private static void ways() {
        ToadBank x = new ToadBank();
        DUE.is("none told", Due.blinks(x, ".", 100), 0);
        Due.code(x, 0, ".");
        DUE.is("one way", Due.blinks(x, many(60, "."), 100), 1);
        DUE.is("none", Due.blinks(x, ".-.", 100), 0);
        Due.code(x, 1, "..");
        int[] ways = {1, 2, 3, 5, 8, 13, 21};
        for (int n = 1; n <= 7; n++) {
            DUE.is("ways of " + n, Due.blinks(x, many(n, "."), 100), ways[n - 1]);
        }
        DUE.is("just below the most", Due.blinks(x, many(42, "."), 100), 433494437);
        DUE.is("just below the most", Due.blinks(x, many(43, "."), 100), 701408733);
        DUE.is("the most", Due.blinks(x, many(44, "."), 100), 1000000000);
        DUE.is("the most", Due.blinks(x, many(60, "."), 100), 1000000000);
        for (int sign = 2; sign < 8; sign++) {
            Due.code(x, sign, ".");
        }
        DUE.is("like ones are ways of their own", Due.blinks(x, "..", 100), 50);
        DUE.is("the most", Due.blinks(x, many(60, "."), 100), 1000000000);
        DUE.is("none at the end", Due.blinks(x, many(59, ".") + "-", 100), 0);
    }

    private static void row(ToadBank x, String text, int... signs) {
        DUE.is("signs of " + text, Due.blinks(x, text, 101), signs.length);
        for (int i = 0; i < signs.length; i++) {
            DUE.is("sign " + i + " of " + text, Due.blinks(x, text, i), signs[i]);
        }
        DUE.is("behind " + text, Due.blinks(x, text, signs.length), -4);
    }

    private static void rows() {
        ToadBank x = new ToadBank();
        Due.code(x, 3, ".");
        Due.code(x, 2, "-");
        Due.code(x, 5, ".-");
        Due.code(x, 1, "..-");
        row(x, ".", 3);
        row(x, ".-", 5);
        row(x, "-.", 2, 3);
        row(x, "..-", 1);
        row(x, "..-.", 1, 3);
        row(x, "...-", 3, 1);
        row(x, "..-.-", 1, 5);
        // 3 then 1 and 1 then 3 can't both be; of rows of like many signs the least one.
        Due.code(x, 0, "..");
        row(x, "...", 0, 3);
        Due.code(x, 4, ".");
        row(x, "...", 0, 3);
        Due.code(x, 0, "--");
        Due.code(x, 6, "..");
        row(x, "...", 3, 6);
        row(x, "---", 0, 2);
        row(x, ".--", 3, 0);
        // Fewest comes ahead of least.
        Due.code(x, 7, "...");
        row(x, "...", 7);
        row(x, "....", 3, 7);
        // A least sign that leads nowhere in as few is not taken.
        ToadBank y = new ToadBank();
        Due.code(y, 0, ".");
        Due.code(y, 1, "..");
        Due.code(y, 2, ".-");
        row(y, "..-", 0, 2);
        row(y, "...-", 1, 2);
        row(y, "...", 0, 1);
        DUE.is("place 59", Due.blinks(y, many(60, "."), 59), -4);
        Due.code(y, 1, "-");
        Due.code(y, 2, "-");
        DUE.is("place 59", Due.blinks(y, many(59, ".") + "-", 59), 1);
        DUE.is("sixty", Due.blinks(y, many(59, ".") + "-", 101), 60);
    }

    private static void blinksRefused() {
        ToadBank x = new ToadBank();
        DUE.is("none told", Due.blinks(x, "-", 101), -2);
        DUE.is("none told", Due.blinks(x, "-", 0), -2);
        DUE.is("none told", Due.blinks(x, "-", 59), -2);
        Due.code(x, 0, ".");
        DUE.is("can't be read", Due.blinks(x, ".-", 101), -2);
        DUE.is("can't be read", Due.blinks(x, ".-", 0), -2);
        DUE.is("can't be read", Due.blinks(x, ".-", 5), -2);
        DUE.is("ways", Due.blinks(x, ".-", 100), 0);
        for (int what : new int[] {0, 59, 100, 101}) {
            DUE.is("fault", Due.blinks(x, ".x-x", what), -1001);
            DUE.is("empty then", x.count(6), 0);
        }
        DUE.is("fault", Due.blinks(x, many(59, ".") + "a", 100), -1059);
        x.feed(0x2e2e7820, 0, 0, 0, 0);
        for (int what : new int[] {-1, 60, 99, 102, Integer.MIN_VALUE, Integer.MAX_VALUE}) {
            DUE.is("what " + what, x.blinks(1, what), -1);
        }
        for (int n : new int[] {0, -1, 21, 61, Integer.MIN_VALUE, Integer.MAX_VALUE}) {
            DUE.is("n " + n, x.blinks(n, 100), -1);
        }
        x.feed(0, 0, 0, 0, 0);
        x.feed(0, 0, 0, 0, 0);
        x.feed(0, 0, 0, 0, 0);
        DUE.is("61", x.blinks(61, 100), -1);
        DUE.is("tape stays", x.count(6), 80);
        DUE.is("the first two", x.blinks(2, 101), 2);
        DUE.is("empty then", x.count(6), 0);
        // What stands behind the n on the tape is no part of the text.
        Due.code(x, 1, "..");
        x.feed(0x2e2e2e2e, 0x2e2e2e2e, 0, 0, 0);
        DUE.is("three alone", x.blinks(3, 100), 3);
    }

    /** Promise 31. */
    private static void atOnce() {
        ToadBank x = new ToadBank();
        DUE.is("none", x.atOnce(), 1);
        Due.code(x, 4, ".-");
        DUE.is("one", x.atOnce(), 1);
        Due.code(x, 2, "..");
        DUE.is("two", x.atOnce(), 1);
        Due.code(x, 6, "-");
        DUE.is("three", x.atOnce(), 1);
        Due.code(x, 7, "-.");
        DUE.is("begins with another one", x.atOnce(), 0);
        Due.code(x, 7, ".-");
        DUE.is("the same", x.atOnce(), 0);
        Due.code(x, 7, ".");
        DUE.is("begins others", x.atOnce(), 0);
        Due.code(x, 7, "...");
        DUE.is("begins with another one", x.atOnce(), 0);
        Due.code(x, 2, "..-");
        DUE.is("again", x.atOnce(), 1);
        // One that ends with another one does not matter.
        ToadBank first = new ToadBank();
        Due.code(first, 0, ".");
        Due.code(first, 7, "..");
        DUE.is("0 begins 7", first.atOnce(), 0);
        ToadBank y = new ToadBank();
        Due.code(y, 0, "-.....");
        Due.code(y, 1, ".....");
        DUE.is("ends with it", y.atOnce(), 1);
        Due.code(y, 2, "-....");
        DUE.is("begins with it", y.atOnce(), 0);
    }

    private static void shortest(int want, int... often) {
        ToadBank x = new ToadBank();
        DUE.is("shortest of " + often.length, Due.shortest(x, often), want);
        DUE.is("empty then", x.count(6), 0);
    }

    /** Promise 32. */
    private static void shortest() {
        shortest(2, 1, 1);
        shortest(300, 45, 255);
        shortest(5, 1, 1, 1);
        shortest(8, 1, 1, 1, 1);
        shortest(24, 1, 1, 1, 1, 1, 1, 1, 1);
        shortest(224, 45, 13, 12, 16, 9, 5);
        shortest(224, 5, 45, 9, 13, 16, 12);
        shortest(2 + 3 + 7, 1, 4, 1, 1);
        shortest(6120, 255, 255, 255, 255, 255, 255, 255, 255);
        // 1 + 1, and so on up: the rarest have seven blinks.
        shortest(2 + 4 + 7 + 12 + 20 + 33 + 54, 1, 1, 2, 3, 5, 8, 13, 21);
        shortest(-2, 0, 1);
        shortest(-2, 1, 0);
        shortest(-2, 1, 2, 3, 4, 5, 6, 7, 0);
        ToadBank x = new ToadBank();
        refusedOften(x, true);
    }

    private static int ask(ToadBank x, boolean shortest, int n) {
        return shortest ? x.shortest(n) : x.inOrder(n);
    }

    private static void refusedOften(ToadBank x, boolean shortest) {
        DUE.is("empty tape", ask(x, shortest, 2), -1);
        x.feed(0x01010001, 0x01010101, 0x01000000, 0, 0);
        for (int n : new int[] {1, 0, -1, 9, 21, Integer.MIN_VALUE, Integer.MAX_VALUE}) {
            DUE.is("n " + n, ask(x, shortest, n), -1);
        }
        DUE.is("tape stays", x.count(6), 20);
        DUE.is("the first two", ask(x, shortest, 2), 2);
        DUE.is("empty then", x.count(6), 0);
        x.feed(0x01010001, 0x01010101, 0x01000000, 0, 0);
        DUE.is("one is 0", ask(x, shortest, 3), -2);
        DUE.is("empty then", x.count(6), 0);
    }

    private static void inOrder(int want, int... often) {
        ToadBank x = new ToadBank();
        DUE.is("in order of " + often.length, Due.inOrder(x, often), want);
        DUE.is("empty then", x.count(6), 0);
    }

    /** Promise 33. */
    private static void inOrder() {
        inOrder(2, 1, 1);
        inOrder(5, 1, 1, 1);
        inOrder(24, 1, 1, 1, 1, 1, 1, 1, 1);
        // 1, 9, 1: one of the rare ones must be with the frequent one.
        inOrder(10 + 11, 1, 9, 1);
        shortest(2 + 11, 1, 9, 1);
        // 9, 1, 1, 9: the two in the middle, then either side.
        inOrder(2 + 11 + 20, 9, 1, 1, 9);
        // 1, 9, 1, 9: neighbours: (1 9) (1 9) or 1 (9 (1 9)).
        inOrder(10 + 10 + 20, 1, 9, 1, 9);
        inOrder(6120, 255, 255, 255, 255, 255, 255, 255, 255);
        inOrder(2 + 4 + 7 + 12 + 20 + 33 + 54, 1, 1, 2, 3, 5, 8, 13, 21);
        inOrder(2 + 4 + 7 + 12 + 20 + 33 + 54, 21, 13, 8, 5, 3, 2, 1, 1);
        inOrder(-2, 0, 1);
        inOrder(-2, 1, 2, 0, 4);
        ToadBank x = new ToadBank();
        refusedOften(x, false);
    }
}
