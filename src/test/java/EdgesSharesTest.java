import java.math.BigInteger;

/** The edges that stand under "4 SHARES", by part() and by share(). */
public final class EdgesSharesTest {
    private static final long MOST = Due.MOST;

    public static void main(String[] args) {
        weights();
        sevenWeights();
        cutTowardNothing();
        rest();
        greatestRemainder();
        firstOfSeveral();
        eachOnce();
        oneAfterAnother();
        allOfIt();
        Due.end();
    }

    private static void parts(long amount, int w0, int w1, int w2, int w3, String due) {
        LedgerTwice x = new LedgerTwice();
        StringBuilder got = new StringBuilder();
        for (int i = 0; i < 4; i++) {
            got.append(i > 0 ? " " : "").append(x.part(amount, w0, w1, w2, w3, i));
        }
        Due.is("parts of " + amount + " by " + w0 + ", " + w1 + ", " + w2 + ", " + w3, got.toString(), due);
    }

    private static LedgerTwice books() {
        LedgerTwice x = new LedgerTwice();
        for (int i = 0; i < 9; i++) {
            x.account(100 + i, 1, -1, false);
        }
        x.period(30);
        return x;
    }

    /** Shares from leaf 0 to those behind it; what the entry has is told. */
    private static String shared(long amount, int... weights) {
        LedgerTwice x = books();
        for (int i = 0; i < weights.length; i++) {
            x.line(i + 1, weights[i]);
        }
        Due.is("share of " + amount, x.share(0, amount, 3, 3), 0);
        return Due.linesOf(x, 0);
    }

    private static void weights() {
        Due.says("4 SHARES: an AMOUNT a is shared by WEIGHTS w (0 .. 1000, 7 at most)");
        parts(10, 0, 0, 0, 1, "0 0 0 10");
        parts(10, 1000, 0, 0, 0, "10 0 0 0");
        parts(4000, 1000, 1000, 1000, 1000, "1000 1000 1000 1000");
        parts(1001, 1, 1000, 0, 0, "1 1000 0 0");
        LedgerTwice x = new LedgerTwice();
        for (int w : new int[] {-1, 1001, Due.LEAST_INT, Due.MOST_INT}) {
            Due.is("weight " + w, x.part(5, w, 1, 1, 1, 1), Due.LEAST);
            Due.is("weight " + w, x.part(5, 1, w, 1, 1, 0), Due.LEAST);
            Due.is("weight " + w, x.part(5, 1, 1, w, 1, 0), Due.LEAST);
            Due.is("weight " + w, x.part(5, 1, 1, 1, w, 0), Due.LEAST);
        }
        Due.is("least and greatest", shared(1001, 1, 1000), "0:-1001 1:1 2:1000");
    }

    private static void sevenWeights() {
        Due.says("(0 .. 1000, 7 at most)");
        Due.is("seven", shared(7, 1, 1, 1, 1, 1, 1, 1), "0:-7 1:1 2:1 3:1 4:1 5:1 6:1 7:1");
        Due.is("seven of the most", shared(-7000, 1000, 1000, 1000, 1000, 1000, 1000, 1000),
            "0:7000 1:-1000 2:-1000 3:-1000 4:-1000 5:-1000 6:-1000 7:-1000");
        LedgerTwice x = books();
        for (int i = 1; i <= 8; i++) {
            x.line(i, 1);
        }
        Due.refused(x, "eight", () -> x.share(0, 8, 3, 3), -3);
    }

    private static void cutTowardNothing() {
        Due.says("with s their sum, of each one a w / s cut toward 0;");
        parts(7, 1, 1, 0, 0, "4 3 0 0");
        parts(-7, 1, 1, 0, 0, "-4 -3 0 0");
        parts(12, 1, 2, 3, 0, "2 4 6 0");
        parts(-12, 1, 2, 3, 0, "-2 -4 -6 0");
        parts(1, 1, 1000, 0, 0, "0 1 0 0");
        parts(-1, 1, 1000, 0, 0, "0 -1 0 0");
        parts(0, 1, 2, 3, 4, "0 0 0 0");
        // 1 / 3 and 2 / 3 of it, which no cut of a shorter number would tell.
        parts(MOST, 1, 2, 0, 0, "333333333333333 666666666666667 0 0");
        parts(-MOST, 1, 2, 0, 0, "-333333333333333 -666666666666667 0 0");
    }

    private static void rest() {
        Due.says("the rest (in ones, by its sign) goes one by one");
        parts(4, 1, 1, 1, 1, "1 1 1 1");
        parts(5, 1, 1, 1, 1, "2 1 1 1");
        parts(6, 1, 1, 1, 1, "2 2 1 1");
        parts(7, 1, 1, 1, 1, "2 2 2 1");
        parts(8, 1, 1, 1, 1, "2 2 2 2");
        parts(-7, 1, 1, 1, 1, "-2 -2 -2 -1");
        Due.is("six are left", shared(13, 1, 1, 1, 1, 1, 1, 1), "0:-13 1:2 2:2 3:2 4:2 5:2 6:2 7:1");
        Due.is("six are left", shared(-13, 1, 1, 1, 1, 1, 1, 1), "0:13 1:-2 2:-2 3:-2 4:-2 5:-2 6:-2 7:-1");
        Due.is("none but the rest", shared(6, 9, 9, 9, 9, 9, 9, 9), "0:-6 1:1 2:1 3:1 4:1 5:1 6:1");
        Due.is("none for most", shared(-1, 9, 9, 10, 9), "0:1 3:-1");
    }

    private static void greatestRemainder() {
        Due.says("to those with the greatest size of the remainder of a w by s");
        parts(5, 1, 2, 3, 1, "1 1 2 1");
        parts(-5, 1, 2, 3, 1, "-1 -1 -2 -1");
        parts(10, 0, 5, 1, 2, "0 6 1 3");
        parts(1, 1, 2, 3, 4, "0 0 0 1");
        parts(-1, 1, 2, 3, 4, "0 0 0 -1");
        parts(2, 1, 2, 3, 4, "0 0 1 1");
        parts(3, 1, 2, 3, 4, "0 1 1 1");
        parts(5, 1, 2, 3, 4, "1 1 1 2");
    }

    private static void firstOfSeveral() {
        Due.says("of several the first one");
        parts(1, 1, 1, 1, 1, "1 0 0 0");
        parts(-1, 1, 1, 1, 1, "-1 0 0 0");
        parts(1, 0, 1, 1, 1, "0 1 0 0");
        parts(1, 1, 2, 2, 1, "0 1 0 0");
        parts(2, 1, 2, 2, 2, "0 1 1 0");
        parts(1, 500, 1000, 1000, 999, "0 1 0 0");
        parts(-10, 3, 3, 1, 0, "-4 -4 -2 0");
    }

    private static void eachOnce() {
        Due.says("each once.");
        parts(3, 1, 1, 1, 1, "1 1 1 0");
        parts(2, 1000, 999, 1, 0, "1 1 0 0");
        parts(3, 1000, 1000, 1000, 1, "1 1 1 0");
        parts(-3, 1000, 1000, 1000, 1, "-1 -1 -1 0");
        parts(2, 7, 7, 7, 0, "1 1 0 0");
    }

    /** What an earlier share left over must not be taken into account. */
    private static void oneAfterAnother() {
        Due.says("goes one by one to those with the greatest size of the remainder of a w by s");
        LedgerTwice x = books();
        Due.is("seven", shareBySeven(x), "0:-1 1:1");
        Due.is("four", x.part(1, 1, 1, 1, 1, 0), 1);
        Due.is("seven", shareBySeven(x), "0:-1 1:1");
        x.line(1, 1);
        x.line(2, 2);
        Due.is("two", x.share(0, 1, 3, 3), 2);
        Due.is("lines", Due.linesOf(x, 2), "0:-1 2:1");
        x.line(3, 1);
        Due.is("one", x.share(0, 1, 3, 3), 3);
        Due.is("lines", Due.linesOf(x, 3), "0:-1 3:1");
    }

    /** Six great remainders are left over. */
    private static String shareBySeven(LedgerTwice x) {
        for (int i = 1; i <= 7; i++) {
            x.line(i, 1000);
        }
        return Due.linesOf(x, x.share(0, 1, 3, 3));
    }

    /** Whatever is shared, nothing of it is left, and each is within one of what is due. */
    private static void allOfIt() {
        Due.says("an AMOUNT a is shared by WEIGHTS");
        LedgerTwice x = new LedgerTwice();
        long[] amounts = {1, -1, 2, 99, MOST, -MOST, MOST - 1, 1 - MOST, 999999937, -123456789012345L};
        int[][] weights = {{1, 2, 3, 4}, {1000, 999, 998, 997}, {0, 1, 0, 1000}, {7, 0, 0, 0}, {333, 333, 333, 1}};
        for (long amount : amounts) {
            for (int[] w : weights) {
                long left = amount;
                long sum = w[0] + w[1] + w[2] + w[3];
                for (int i = 0; i < 4; i++) {
                    long part = x.part(amount, w[0], w[1], w[2], w[3], i);
                    left -= part;
                    BigInteger off = BigInteger.valueOf(part).multiply(BigInteger.valueOf(sum))
                        .subtract(BigInteger.valueOf(amount).multiply(BigInteger.valueOf(w[i])));
                    Due.isTrue("within one", off.abs().compareTo(BigInteger.valueOf(sum)) < 0);
                }
                Due.is("nothing is left of " + amount, left, 0);
            }
        }
    }
}
