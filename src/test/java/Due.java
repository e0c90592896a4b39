/** Compares what a call answers with what is due, and ends a test with exit code 1 if anything was wrong. */
final class Due {
    static final long LEAST = Long.MIN_VALUE;
    private static int asked = 0;
    private static int wrong = 0;

    private Due() {
    }

    static void is(String call, long got, long want) {
        asked++;
        if (got != want) {
            wrong++;
            System.out.println(call + " answered " + got + ", due is " + want);
        }
    }

    static void is(String call, String got, String want) {
        asked++;
        if (!got.equals(want)) {
            wrong++;
            System.out.println(call + " answered\n" + got + "\ndue is\n" + want);
        }
    }

    static void isTrue(String what, boolean holds) {
        is(what, holds ? 1 : 0, 1);
    }

    static void end() {
        System.out.println(asked + " answers asked for, " + wrong + " wrong");
        if (wrong != 0 || asked == 0) {
            System.exit(1);
        }
    }

    /** Leaves 0 assets, 1 own (the owner's), 2 income, 3 costs; periods 0 .. 30, 31 .. 60. */
    static LedgerTwice smallBooks() {
        LedgerTwice x = new LedgerTwice();
        x.account(100, 0, -1, false);
        x.account(200, 2, -1, false);
        x.account(300, 3, -1, false);
        x.account(400, 4, -1, false);
        x.period(30);
        x.period(60);
        x.owner(1);
        return x;
    }

    /** An entry of two lines: amount on one leaf, less it on the other. */
    static int move(LedgerTwice x, int from, int to, long amount, int day) {
        x.line(to, amount);
        x.line(from, -amount);
        int answer = x.post(day, 0);
        if (answer < 0) {
            x.drop();
        }
        return answer;
    }

    static String sheetOf(LedgerTwice x) {
        StringBuilder text = new StringBuilder();
        for (int i = 0; x.shown(i) >= 0; i++) {
            text.append((char) x.shown(i));
        }
        return text.toString();
    }

    static String linesOf(LedgerTwice x, int entry) {
        StringBuilder text = new StringBuilder();
        for (int i = 0; i < x.entry(entry, 3); i++) {
            text.append(x.lineOf(entry, i, 0)).append(':').append(x.lineOf(entry, i, 1)).append(' ');
        }
        return text.toString().trim();
    }

    static String journalOf(LedgerTwice x) {
        StringBuilder text = new StringBuilder();
        for (int i = 0; i < x.count(5); i++) {
            text.append(x.byteAt(i)).append(' ');
        }
        return text.toString().trim();
    }
}
