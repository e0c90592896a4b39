import java.util.function.LongSupplier;

/** Compares what a call answers with what is due, and ends a test with exit code 1 if anything was wrong. */
final class Due {
    static final long LEAST = Long.MIN_VALUE;
    static final long MOST = 1000000000000000L;
    static final int LEAST_INT = Integer.MIN_VALUE;
    static final int MOST_INT = Integer.MAX_VALUE;
    private static final int MOST_CALLS = 512;
    private static final int MOST_SECONDS = 300;
    private static int asked = 0;
    private static int wrong = 0;
    private static String sentence = "";

    static {
        // A call that does not end is a wrong answer, too: the test must not hang, but fail.
        Thread guard = new Thread(Due::endLate);
        guard.setDaemon(true);
        guard.start();
    }

    private Due() {
    }

    private static void endLate() {
        try {
            Thread.sleep(MOST_SECONDS * 1000L);
        } catch (InterruptedException e) {
            Thread.currentThread().interrupt();
        }
        System.out.println(sentence + "has not ended after " + MOST_SECONDS + " seconds");
        Runtime.getRuntime().halt(1);
    }

    static void is(String call, long got, long want) {
        asked++;
        if (got != want) {
            wrong++;
            System.out.println(sentence + call + " answered " + got + ", due is " + want);
        }
    }

    static void is(String call, String got, String want) {
        asked++;
        if (!got.equals(want)) {
            wrong++;
            System.out.println(sentence + call + " answered\n" + got + "\ndue is\n" + want);
        }
    }

    static void isTrue(String what, boolean holds) {
        is(what, holds ? 1 : 0, 1);
    }

    /** The words of the document that what is asked for next belongs to. */
    static void says(String words) {
        isTrue("the document says: " + words, Document.words().contains(words));
        sentence = "[" + words + "]\n  ";
    }

    /** A call that is refused: nothing that is told changes by it. */
    static void refused(LedgerTwice x, String call, LongSupplier ask, long want) {
        String before = told(x);
        is(call, ask.getAsLong(), want);
        isTrue(call + " changes nothing", told(x).equals(before));
    }

    static void end() {
        System.out.println(asked + " answers asked for, " + wrong + " wrong");
        if (wrong != 0 || asked == 0) {
            System.exit(1);
        }
    }

    /** Leaves 0 assets, 1 own (the owner's), 2 income, 3 costs; periods 0 .. 30, 31 .. 60. */
    static LedgerTwice smallBooks() {
        LedgerTwice x = new LedgerTwice();
        x.account(100, 0, -1, false);
        x.account(200, 2, -1, false);
        x.account(300, 3, -1, false);
        x.account(400, 4, -1, false);
        x.period(30);
        x.period(60);
        x.owner(1);
        return x;
    }

    /** The owner's leaf 0 and 59 leaves of income and costs, on each as many ones as its number; one period. */
    static LedgerTwice booksToCloseWidely() {
        LedgerTwice x = new LedgerTwice();
        x.account(1, 2, -1, false);
        for (int i = 1; i < 60; i++) {
            x.account(1 + i, 3 + i % 2, -1, false);
        }
        x.period(30);
        x.owner(0);
        for (int i = 1; i < 60; i += 4) {
            for (int k = i; k < i + 4 && k < 60; k++) {
                x.line(k, k);
                x.line(0, -k);
            }
            x.post(3, 3);
        }
        return x;
    }

    /** An entry of two lines: amount on one leaf, less it on the other. */
    static int move(LedgerTwice x, int from, int to, long amount, int day) {
        x.line(to, amount);
        x.line(from, -amount);
        int answer = x.post(day, 0);
        if (answer < 0) {
            x.drop();
        }
        return answer;
    }

    static String sheetOf(LedgerTwice x) {
        StringBuilder text = new StringBuilder();
        for (int i = 0; i <= 4000 && x.shown(i) >= 0; i++) {
            text.append((char) x.shown(i));
        }
        return text.toString();
    }

    static String linesOf(LedgerTwice x, int entry) {
        StringBuilder text = new StringBuilder();
        for (int i = 0; i < x.entry(entry, 3); i++) {
            text.append(x.lineOf(entry, i, 0)).append(':').append(x.lineOf(entry, i, 1)).append(' ');
        }
        return text.toString().trim();
    }

    static String journalOf(LedgerTwice x) {
        StringBuilder text = new StringBuilder();
        for (int i = 0; i < x.count(5); i++) {
            text.append(x.byteAt(i)).append(' ');
        }
        return text.toString().trim();
    }

    /** All that is told of the books, the draft's lines but for their number, the journal and the sheet. */
    static String told(LedgerTwice x) {
        StringBuilder text = new StringBuilder(journalOf(x)).append('\n');
        for (int what = 0; what <= 10; what++) {
            text.append(x.count(what)).append(' ');
        }
        return x.count(10) == 0 ? text.toString() : text.append(sheetOf(x)).append(booksOf(x)).toString();
    }

    static String booksOf(LedgerTwice x) {
        StringBuilder text = new StringBuilder();
        for (int a = 0; a < x.count(0); a++) {
            for (int what = 0; what <= 6; what++) {
                text.append(x.of(a, what)).append(' ');
            }
            text.append(x.balance(a)).append(' ').append(x.sum(a, 0, 30)).append('\n');
            for (int i = 0; i < x.of(a, 6); i++) {
                text.append(x.ledger(a, i, 0)).append(' ').append(x.ledger(a, i, 2)).append(' ');
            }
        }
        for (int p = 0; p < x.count(1); p++) {
            for (int what = 0; what <= 3; what++) {
                text.append(x.periodOf(p, what)).append(' ');
            }
        }
        for (int e = 0; e < x.count(3); e++) {
            for (int what = 0; what <= 5; what++) {
                text.append(x.entry(e, what)).append(' ');
            }
            text.append(linesOf(x, e)).append('\n');
        }
        return text.append(x.count(2)).append(' ').append(x.count(7)).append(' ').append(x.count(8)).toString();
    }

    /** Small books with so many entries: one of income, then closings and openings of period 0, to and fro. */
    static LedgerTwice booksOfEntries(int many) {
        LedgerTwice x = smallBooks();
        move(x, 2, 0, 1, 3);
        return turned(x, many);
    }

    /** Period 0 is closed and opened till there are so many entries. */
    static LedgerTwice turned(LedgerTwice x, int many) {
        for (int i = x.count(3); i < many; i++) {
            is("close, reopen", x.count(2) == 0 ? x.close() : x.reopen(), 0);
        }
        return x;
    }

    /** Small books of which the journal has room for just so many bytes more. */
    static LedgerTwice booksWithRoom(int left) {
        LedgerTwice x = smallBooks();
        for (int i = 0; i < MOST_CALLS && room(x) - left >= 54; i++) {
            x.line(0, 1);
            is("share", x.share(2, i % 2 == 0 ? MOST : -MOST, 60, LEAST_INT), i);
        }
        // What is left is put together of records of 6 and 5 bytes.
        for (int i = 0; i < MOST_CALLS && (room(x) - left) % 5 != 0; i++) {
            is("shut", x.shut(3, i % 2 == 0), i % 2);
        }
        for (int i = 0; i < MOST_CALLS && room(x) > left; i++) {
            is("owner", x.owner(1), 1);
        }
        is("room", room(x), left);
        return x;
    }

    static int room(LedgerTwice x) {
        return 6000 - x.count(5);
    }
}
