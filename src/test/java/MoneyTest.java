/** Promises 26 to 28: what was taken, loans. */
final class MoneyTest {
    private static final Due DUE = new Due();

    public static void main(String[] args) {
        taken();
        loan();
        payment();
        DUE.end();
    }

    private static void is(int shortage, int many, int which, int... sums) {
        ToadBank x = new ToadBank();
        DUE.is("taken " + shortage + " how many", Due.taken(x, shortage, 0, sums), many);
        DUE.is("empty then", x.count(6), 0);
        DUE.is("taken " + shortage + " which", Due.taken(x, shortage, 1, sums), which);
    }

    /** Promise 26. */
    private static void taken() {
        is(0, 0, 0, 5, 7);
        is(0, 0, 0, 0);
        is(5, 1, 1, 5);
        is(6, -2, -2, 5);
        is(12, 2, 3, 5, 7);
        is(12, 1, 4, 5, 7, 12);
        is(12, 1, 4, 5, 7, 12, 12);
        is(15, 2, 12, 5, 7, 12, 3);
        is(10, 2, 5, 3, 1, 7, 9);
        is(10, 2, 6, 2, 1, 9, 3, 7);
        is(255, 1, 2048, 1, 2, 3, 4, 5, 6, 7, 8, 9, 10, 11, 255);
        is(3060, 12, 4095, 255, 255, 255, 255, 255, 255, 255, 255, 255, 255, 255, 255);
        is(3059, -2, -2, 255, 255, 255, 255, 255, 255, 255, 255, 255, 255, 255, 255);
        is(2, 2, 5, 1, 0, 1, 1);
        ToadBank x = new ToadBank();
        x.feed(0x01020304, 0x05060708, 0x090a0b0c, 0x0d0e0f10, 0);
        DUE.is("n 0", x.taken(0, 1, 0), -1);
        DUE.is("n 13", x.taken(13, 1, 0), -1);
        DUE.is("n -1", x.taken(-1, 1, 0), -1);
        DUE.is("shortage -1", x.taken(3, -1, 0), -1);
        DUE.is("shortage 3061", x.taken(3, 3061, 0), -1);
        DUE.is("what 2", x.taken(3, 1, 2), -1);
        DUE.is("what -1", x.taken(3, 1, -1), -1);
        DUE.is("tape stays", x.count(6), 20);
        DUE.is("the first n alone", x.taken(3, 4, 1), 5);
        DUE.is("empty then", x.count(6), 0);
        DUE.is("not so many", x.taken(1, 0, 0), -1);
    }

    /** Promise 27. */
    private static void loan() {
        ToadBank x = new ToadBank();
        DUE.is("all at once", x.loan(100, 0, 100), 1);
        DUE.is("more than all", x.loan(100, 0, 9999), 1);
        DUE.is("ten", x.loan(100, 0, 10), 10);
        DUE.is("the rest is one more", x.loan(101, 0, 10), 11);
        // 100 and 5 less 55 is 50, 50 and 3 (2.5 rounded up) less 55.
        DUE.is("rounded up", x.loan(100, 5, 55), 2);
        DUE.is("rounded up", x.loan(100, 5, 53), 3);
        DUE.is("rounded up", x.loan(1, 1, 1), -2);
        DUE.is("1 and 1 less 2", x.loan(1, 1, 2), 1);
        DUE.is("as much as grows", x.loan(100, 10, 10), -2);
        DUE.is("less than grows", x.loan(9999, 20, 1), -2);
        DUE.is("one more than grows", x.loan(100, 10, 11) > 0, true);
        DUE.is("600", x.loan(600, 0, 1), 600);
        DUE.is("601", x.loan(601, 0, 1), -2);
        DUE.is("9999 by 17", x.loan(9999, 0, 17), 589);
        DUE.is("9999 by 16", x.loan(9999, 0, 16), -2);
        int[][] wrong = {{0, 0, 1}, {10000, 0, 1}, {1, -1, 1}, {1, 21, 1}, {1, 0, 0}, {1, 0, 10000},
            {Integer.MIN_VALUE, 0, 1}, {1, Integer.MAX_VALUE, 1}, {1, 0, Integer.MIN_VALUE}};
        for (int[] w : wrong) {
            DUE.is("loan " + w[0] + " " + w[1] + " " + w[2], x.loan(w[0], w[1], w[2]), -1);
        }
        DUE.is("20", x.loan(9999, 20, 9999), 2);
    }

    /** Promise 28. */
    private static void payment() {
        ToadBank x = new ToadBank();
        DUE.is("at once", x.payment(100, 0, 1), 100);
        DUE.is("with what grows", x.payment(100, 10, 1), 110);
        DUE.is("the most", x.payment(9999, 20, 1), 11999);
        DUE.is("the least", x.payment(1, 0, 60), 1);
        DUE.is("60", x.payment(60, 0, 60), 1);
        DUE.is("61", x.payment(61, 0, 60), 2);
        DUE.is("1 grows by 1", x.payment(1, 1, 60), 2);
        for (int months = 1; months <= 60; months++) {
            int p = x.payment(5000, 3, months);
            DUE.is("in " + months, x.loan(5000, 3, p) <= months && x.loan(5000, 3, p) > 0, true);
            int less = x.loan(5000, 3, p - 1);
            DUE.is("not by less in " + months, less == -2 || less > months, true);
        }
        int[][] wrong = {{0, 0, 1}, {10000, 0, 1}, {1, -1, 1}, {1, 21, 1}, {1, 0, 0}, {1, 0, 61},
            {Integer.MIN_VALUE, 0, 1}, {1, Integer.MAX_VALUE, 1}, {1, 0, Integer.MIN_VALUE}};
        for (int[] w : wrong) {
            DUE.is("payment " + w[0] + " " + w[1] + " " + w[2], x.payment(w[0], w[1], w[2]), -1);
        }
    }
}
