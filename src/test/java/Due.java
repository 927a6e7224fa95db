/** What the tests share: feeding texts and bytes, comparing answers, ending with 1 if one was not as due. */
final class Due {
    private int wrong = 0;
    private int asked = 0;

    void is(String call, long got, long want) {
        asked++;
        if (got != want) {
            wrong++;
            System.out.println(call + " answered " + got + ", due is " + want);
        }
    }

    void is(String call, boolean got, boolean want) {
        is(call, got ? 1 : 0, want ? 1 : 0);
    }

    void end() {
        System.out.println(asked + " answers, " + wrong + " not as due");
        if (wrong != 0) {
            System.exit(1);
        }
    }

    /** Feeds bytes behind the tape, 0 behind the last one up to a whole feed; false if there is no room. */
    static boolean feedBytes(ToadBank x, int... bytes) {
        for (int start = 0; start < bytes.length; start += 20) {
            int[] words = new int[5];
            for (int i = 0; i < 20; i++) {
                int b = start + i < bytes.length ? bytes[start + i] : 0;
                words[i / 4] |= (b & 255) << (24 - 8 * (i % 4));
            }
            if (x.feed(words[0], words[1], words[2], words[3], words[4]) == ToadBank.NONE) {
                return false;
            }
        }
        return true;
    }

    static int[] bytesOf(String text) {
        int[] bytes = new int[text.length()];
        for (int i = 0; i < bytes.length; i++) {
            bytes[i] = text.charAt(i);
        }
        return bytes;
    }

    static int law(ToadBank x, String text) {
        feedBytes(x, bytesOf(text));
        return x.law(text.length());
    }

    static int ledger(ToadBank x, String text) {
        feedBytes(x, bytesOf(text));
        return x.ledger(text.length());
    }

    static int code(ToadBank x, int sign, String text) {
        feedBytes(x, bytesOf(text));
        return x.code(sign, text.length());
    }

    static int blinks(ToadBank x, String text, int what) {
        feedBytes(x, bytesOf(text));
        return x.blinks(text.length(), what);
    }

    static int shortest(ToadBank x, int... howOften) {
        feedBytes(x, howOften);
        return x.shortest(howOften.length);
    }

    static int inOrder(ToadBank x, int... howOften) {
        feedBytes(x, howOften);
        return x.inOrder(howOften.length);
    }

    static int taken(ToadBank x, int shortage, int what, int... sums) {
        feedBytes(x, sums);
        return x.taken(sums.length, shortage, what);
    }

    static int check(ToadBank x, int... bytes) {
        feedBytes(x, bytes);
        return x.check(bytes.length);
    }

    /** What each of the eight owes and is owed, two numbers each. */
    static int tampered(ToadBank x, int what, int... sums) {
        int[] bytes = new int[32];
        for (int i = 0; i < sums.length; i++) {
            bytes[2 * i] = sums[i] >> 8;
            bytes[2 * i + 1] = sums[i] & 255;
        }
        feedBytes(x, bytes);
        return x.tampered(what);
    }

    /** A town of open banks with such cash, one behind the other; less than 0: that one is not told. */
    static ToadBank town(int... cash) {
        ToadBank x = new ToadBank();
        for (int b = 0; b < cash.length; b++) {
            if (cash[b] >= 0) {
                x.bank(b, cash[b]);
            }
        }
        return x;
    }
}
