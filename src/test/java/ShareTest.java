/** Promises 12 and 26: share, part. */
public final class ShareTest {
    private static final long MOST = 1000000000000000L;

    public static void main(String[] args) {
        shared();
        refusals();
        orderOfRefusals();
        judged();
        weights();
        parts();
        partsRefused();
        partsOfTheMost();
        Due.end();
    }

    private static LedgerTwice books() {
        LedgerTwice x = new LedgerTwice();
        for (int i = 0; i < 9; i++) {
            x.account(100 + i, 1, -1, false);
        }
        x.account(200, 1, -1, true);
        x.period(30);
        x.period(60);
        return x;
    }

    private static void shared() {
        LedgerTwice x = books();
        x.line(3, 1);
        x.line(1, 1);
        x.line(2, 1);
        Due.is("share", x.share(0, 100, 5, 77), 0);
        Due.is("the first gets the rest", Due.linesOf(x, 0), "0:-100 3:34 1:33 2:33");
        int[] told = {5, 77, 0, 4, -1, -1};
        for (int what = 0; what < told.length; what++) {
            Due.is("entry(0, " + what + ")", x.entry(0, what), told[what]);
        }
        Due.is("the draft is empty", x.count(4), 0);
        x.line(1, 3);
        x.line(2, 5);
        x.line(3, 1000);
        x.share(0, -1, 5, 5);
        Due.is("none where it is 0", Due.linesOf(x, 1), "0:1 3:-1");
        x.line(0, 2);
        x.line(0, 3);
        x.share(0, 7, 5, 5);
        Due.is("its own leaf", Due.linesOf(x, 2), "0:-7 0:3 0:4");
        Due.is("balance", x.balance(0), -99);
        Due.is("back", x.back(2, 31), 3);
        Due.is("record like that of a post", x.byteAt(x.count(5) - 2 - 2 - 2), 2);
    }

    private static void refusals() {
        LedgerTwice x = books();
        Due.is("empty draft", x.share(0, 5, 1, 1), -6);
        x.line(1, 1000);
        Due.is("unknown", x.share(10, 5, 1, 1), -2);
        Due.is("account -1", x.share(-1, 5, 1, 1), -2);
        Due.is("amount 0", x.share(0, 0, 1, 1), -3);
        Due.is("too great", x.share(0, MOST + 1, 1, 1), -3);
        Due.is("too small", x.share(0, -MOST - 1, 1, 1), -3);
        Due.is("least long", x.share(0, Due.LEAST, 1, 1), -3);
        Due.is("a group", x.share(9, 5, 1, 1), -4);
        Due.is("the greatest", x.share(0, MOST, 1, 1), 0);
        x.line(1, 1);
        Due.is("the least", x.share(0, -MOST, 1, 1), 1);
        x.line(1, 1001);
        Due.is("weight 1001", x.share(0, 5, 1, 1), -3);
        x.drop();
        x.line(1, -1);
        Due.is("weight -1", x.share(0, 5, 1, 1), -3);
        x.drop();
        x.line(1, MOST);
        Due.is("weight far", x.share(0, 5, 1, 1), -3);
        x.drop();
        for (int i = 1; i <= 7; i++) {
            x.line(i, 1);
        }
        Due.is("seven weights", x.share(0, 7, 1, 1), 2);
        for (int i = 1; i <= 8; i++) {
            x.line(i, 1);
        }
        Due.is("eight weights", x.share(0, 8, 1, 1), -3);
        Due.is("the draft is kept", x.count(4), 8);
    }

    private static void orderOfRefusals() {
        LedgerTwice x = books();
        Due.is("UNKNOWN ahead of OUTSIDE", x.share(10, 0, 1, 1), -2);
        Due.is("OUTSIDE ahead of KIND", x.share(9, 0, 1, 1), -3);
        Due.is("KIND ahead of NOT", x.share(9, 1, 1, 1), -4);
        Due.is("NOT ahead of NODAY", x.share(0, 1, 99, 1), -6);
    }

    private static void judged() {
        LedgerTwice x = books();
        x.account(300, 2, -1, false);
        x.owner(10);
        x.line(1, 1);
        Due.is("no day", x.share(0, 5, 61, 1), -9);
        x.shut(1, true);
        Due.is("shut", x.share(0, 5, 1, 1), -11);
        x.shut(1, false);
        x.shut(0, true);
        Due.is("shut", x.share(0, 5, 1, 1), -11);
        x.close();
        Due.is("closed", x.share(0, 5, 1, 1), -10);
        x.shut(0, false);
        Due.is("the draft is kept", x.count(4), 1);
        for (int i = 0; i < 10; i++) {
            Due.is("share", x.share(0, MOST, 31, 1), i);
            x.line(1, 1);
        }
        Due.is("over", x.share(0, 1, 31, 1), -12);
        Due.is("the draft is kept", x.count(4), 1);
    }

    private static void weights() {
        LedgerTwice x = books();
        int[] weights = {1000, 1, 999, 7, 7, 7, 3};
        for (int i = 0; i < 7; i++) {
            x.line(i + 1, weights[i]);
        }
        x.share(0, MOST, 1, 1);
        // s is 2024; each is cut, three ones are left for the greatest remainders.
        long[] cut = new long[7];
        long rest = MOST;
        for (int i = 0; i < 7; i++) {
            cut[i] = MOST * weights[i] / 2024;
            rest -= cut[i];
        }
        long total = 0;
        long above = 0;
        for (int i = 0; i < 7; i++) {
            long got = x.lineOf(0, i + 1, 1);
            total += got;
            above += got - cut[i];
            Due.isTrue("cut, or one more", got == cut[i] || got == cut[i] + 1);
        }
        Due.is("all is shared", total, MOST);
        Due.is("the rest", above, rest);
    }

    private static void part(long amount, int[] w, long... due) {
        LedgerTwice x = new LedgerTwice();
        for (int i = 0; i < 4; i++) {
            Due.is("part of " + amount + ", " + i, x.part(amount, w[0], w[1], w[2], w[3], i), due[i]);
        }
    }

    private static void parts() {
        part(10, new int[] {1, 1, 1, 0}, 4, 3, 3, 0);
        part(11, new int[] {1, 1, 1, 0}, 4, 4, 3, 0);
        part(-11, new int[] {1, 1, 1, 0}, -4, -4, -3, 0);
        part(-10, new int[] {3, 3, 1, 0}, -4, -4, -2, 0);
        part(10, new int[] {0, 5, 1, 2}, 0, 6, 1, 3);
        part(0, new int[] {0, 5, 1, 2}, 0, 0, 0, 0);
        part(1, new int[] {0, 0, 0, 1000}, 0, 0, 0, 1);
        part(1, new int[] {1, 1, 1, 1}, 1, 0, 0, 0);
        part(3, new int[] {1, 1, 1, 1}, 1, 1, 1, 0);
        part(5, new int[] {1, 2, 3, 1}, 1, 1, 2, 1);
    }

    private static void partsRefused() {
        LedgerTwice x = new LedgerTwice();
        Due.is("share -1", x.part(5, 1, 1, 1, 1, -1), Due.LEAST);
        Due.is("share 4", x.part(5, 1, 1, 1, 1, 4), Due.LEAST);
        Due.is("too great", x.part(MOST + 1, 1, 1, 1, 1, 0), Due.LEAST);
        Due.is("too small", x.part(-MOST - 1, 1, 1, 1, 1, 0), Due.LEAST);
        Due.is("least long", x.part(Due.LEAST, 1, 1, 1, 1, 0), Due.LEAST);
        Due.is("no weights", x.part(5, 0, 0, 0, 0, 0), Due.LEAST);
        Due.is("weight 1001", x.part(5, 1001, 1, 1, 1, 0), Due.LEAST);
        Due.is("weight 1001", x.part(5, 1, 1001, 1, 1, 0), Due.LEAST);
        Due.is("weight 1001", x.part(5, 1, 1, 1001, 1, 0), Due.LEAST);
        Due.is("weight 1001", x.part(5, 1, 1, 1, 1001, 0), Due.LEAST);
        Due.is("weight -1", x.part(5, -1, 1, 1, 1, 0), Due.LEAST);
        Due.is("weight -1", x.part(5, 1, 1, 1, -1, 0), Due.LEAST);
        Due.is("weights that cancel", x.part(5, -1, 1, 0, 0, 0), Due.LEAST);
        Due.is("weight 1000", x.part(5, 1000, 0, 0, 0, 0), 5);
    }

    private static void partsOfTheMost() {
        part(MOST, new int[] {1000, 1000, 1000, 0}, 333333333333334L, 333333333333333L, 333333333333333L, 0);
        part(-MOST, new int[] {1000, 1000, 1000, 0}, -333333333333334L, -333333333333333L, -333333333333333L, 0);
    }
}
