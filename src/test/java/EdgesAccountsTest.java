/** The edges that stand under "What it is" and "1 ACCOUNTS": a test for each sentence. */
public final class EdgesAccountsTest {
    private static final long MOST = Due.MOST;

    public static void main(String[] args) {
        accountsNumbered();
        calls512();
        codes();
        kinds();
        parents();
        groupsAndLeaves();
        depths();
        shutLeaves();
        leftAndRight();
        periodsNumbered();
        periodDays();
        openAtFirst();
        entriesNumbered();
        the400th();
        tags();
        amounts();
        sorts();
        balanceOfLeaf();
        balanceOfGroup();
        Due.end();
    }

    private static void accountsNumbered() {
        Due.says("1 ACCOUNTS are numbered from 0 as they come, 60 at most.");
        LedgerTwice x = new LedgerTwice();
        for (int i = 0; i < 60; i++) {
            Due.refused(x, "a refused one takes no number", () -> x.account(0, 0, -1, false), -3);
            Due.is("account " + i, x.account(100 - i, i % 5, -1, i % 2 == 0), i);
            Due.is("how many", x.count(0), i + 1);
        }
        Due.refused(x, "the 61st", () -> x.account(1, 0, -1, false), -13);
        Due.refused(x, "the 61st, a group", () -> x.account(9999, 4, 4, true), -13);
        for (int i = 0; i < 60; i++) {
            Due.is("code of " + i, x.of(i, 0), 100 - i);
        }
    }

    private static void calls512() {
        Due.says("An object is used for at most 512 calls after it has been made; what later calls answer is free.");
        LedgerTwice x = new LedgerTwice();
        for (int i = 0; i < 511; i++) {
            x.count(0);
        }
        Due.is("the 512th", x.account(1, 0, -1, false), 0);
        LedgerTwice y = new LedgerTwice();
        for (int i = 0; i < 512; i++) {
            Due.is("each call writes a record", y.account(1 + i, 0, -1, false), i < 60 ? i : -13);
        }
        // They may answer what they like, but come to an end without a throw.
        for (int i = 0; i < 2000; i++) {
            y.line(0, MOST);
            y.line(0, -MOST);
            y.period(i);
            y.post(i, i);
            y.back(i, i);
            y.sheet(i % 3);
        }
        Due.isTrue("no more than there is room for", y.count(5) <= 6000 && y.count(3) <= 400);
    }

    private static void codes() {
        Due.says("One has a CODE (1 .. 9999, each once)");
        LedgerTwice x = new LedgerTwice();
        for (int code : new int[] {0, -1, -9999, 10000, 10001, 65537, Due.LEAST_INT, Due.MOST_INT}) {
            Due.refused(x, "code " + code, () -> x.account(code, 0, -1, false), -3);
        }
        Due.is("the least code", x.account(1, 0, -1, true), 0);
        Due.is("the greatest code", x.account(9999, 0, 0, false), 1);
        Due.is("one in between", x.account(5000, 3, -1, false), 2);
        Due.refused(x, "that of a group", () -> x.account(1, 0, 0, false), -5);
        Due.refused(x, "that of a leaf", () -> x.account(9999, 0, 0, true), -5);
        Due.refused(x, "of another kind", () -> x.account(9999, 4, -1, false), -5);
        Due.refused(x, "the last one's", () -> x.account(5000, 0, -1, false), -5);
        Due.is("their neighbours are free", x.account(2, 0, -1, false), 3);
        Due.is("their neighbours are free", x.account(9998, 0, -1, false), 4);
    }

    private static void kinds() {
        Due.says("a KIND (0 ASSETS, 1 DEBTS, 2 OWN, 3 INCOME, 4 COSTS)");
        LedgerTwice x = new LedgerTwice();
        for (int kind : new int[] {-1, 5, 256, Due.LEAST_INT, Due.MOST_INT}) {
            Due.refused(x, "kind " + kind, () -> x.account(1, kind, -1, false), -3);
        }
        for (int kind = 0; kind < 5; kind++) {
            Due.is("kind " + kind, x.account(10 + kind, kind, -1, false), kind);
            Due.is("told", x.of(kind, 1), kind);
        }
        x.period(9);
        Due.refused(x, "assets are not own", () -> x.owner(0), -4);
        Due.refused(x, "debts are not own", () -> x.owner(1), -4);
        Due.refused(x, "income is not own", () -> x.owner(3), -4);
        Due.refused(x, "costs are not own", () -> x.owner(4), -4);
        Due.is("own", x.owner(2), -1);
        Due.move(x, 0, 1, 1, 0);
        Due.move(x, 0, 2, 10, 0);
        Due.move(x, 0, 3, 100, 0);
        Due.move(x, 0, 4, 1000, 0);
        x.close();
        Due.is("income and costs are closed alone", Due.linesOf(x, 4), "3:-100 4:-1000 2:1100");
        x.sheet(2);
        Due.is("each has its row", Due.sheetOf(x), "A -11.11\nD 0.01\nO 11.10\nI 0.00\nC 0.00\n= 0.00\n");
    }

    private static void parents() {
        Due.says("a PARENT: an elder GROUP of the same KIND, or NONE");
        LedgerTwice x = new LedgerTwice();
        Due.refused(x, "no elder one", () -> x.account(1, 0, 0, true), -2);
        Due.is("NONE", x.account(1, 0, LedgerTwice.NONE, true), 0);
        Due.refused(x, "itself", () -> x.account(2, 0, 1, true), -2);
        for (int parent : new int[] {-2, 2, 60, Due.LEAST_INT, Due.MOST_INT}) {
            Due.refused(x, "parent " + parent, () -> x.account(2, 0, parent, true), -2);
        }
        for (int kind = 1; kind < 5; kind++) {
            int other = kind;
            Due.refused(x, "kind " + kind + " under one of 0", () -> x.account(2, other, 0, false), -4);
        }
        Due.is("under the elder one", x.account(2, 0, 0, false), 1);
        Due.refused(x, "under a leaf", () -> x.account(3, 0, 1, false), -4);
        Due.is("told", x.of(1, 2), 0);
        Due.is("told", x.of(0, 2), -1);
    }

    private static void groupsAndLeaves() {
        Due.says("it is a GROUP or a LEAF.");
        LedgerTwice x = new LedgerTwice();
        x.account(1, 2, -1, true);
        x.account(2, 2, -1, false);
        Due.is("a group", x.of(0, 3), 1);
        Due.is("a leaf", x.of(1, 3), 0);
        Due.refused(x, "no line of a group", () -> x.line(0, 5), -4);
        Due.refused(x, "no owner that is a group", () -> x.owner(0), -4);
        Due.refused(x, "no child of a leaf", () -> x.account(3, 2, 1, false), -4);
        Due.is("a line of a leaf", x.line(1, 5), 1);
        Due.is("a child of a group", x.account(3, 2, 0, false), 2);
    }

    private static void depths() {
        Due.says("Its DEPTH is 0 without a PARENT, else one more than that one's: 5 at most.");
        LedgerTwice x = new LedgerTwice();
        for (int depth = 0; depth <= 5; depth++) {
            Due.is("depth " + depth, x.account(1 + depth, 1, depth - 1, true), depth);
            Due.is("told", x.of(depth, 5), depth);
        }
        Due.refused(x, "a leaf of depth 6", () -> x.account(7, 1, 5, false), -4);
        Due.refused(x, "a group of depth 6", () -> x.account(7, 1, 5, true), -4);
        Due.is("a leaf of depth 5", x.account(7, 1, 4, false), 6);
        Due.is("told", x.of(6, 5), 5);
        Due.is("without a parent", x.account(8, 1, -1, true), 7);
        Due.is("told", x.of(7, 5), 0);
        Due.is("under that one", x.account(9, 1, 7, false), 8);
        Due.is("told", x.of(8, 5), 1);
    }

    private static void shutLeaves() {
        Due.says("A LEAF may be SHUT.");
        LedgerTwice x = new LedgerTwice();
        x.account(1, 0, -1, true);
        x.account(2, 0, 0, false);
        Due.is("it is not at first", x.of(1, 4), 0);
        Due.refused(x, "a group may not", () -> x.shut(0, true), -4);
        Due.is("a leaf may", x.shut(1, true), 0);
        Due.is("told", x.of(1, 4), 1);
        Due.is("its group is not", x.of(0, 4), 0);
        Due.is("a leaf that comes behind is not", x.account(3, 0, 0, false), 2);
        Due.is("told", x.of(2, 4), 0);
    }

    private static void leftAndRight() {
        Due.says("AMOUNTS are longs; on a LEAF they are left (above 0) or right (below 0).");
        LedgerTwice x = Due.smallBooks();
        Due.move(x, 2, 0, MOST, 1);
        Due.is("left", x.balance(0), MOST);
        Due.is("right", x.balance(2), -MOST);
        Due.is("left", x.lineOf(0, 0, 1), MOST);
        Due.is("right", x.lineOf(0, 1, 1), -MOST);
        Due.move(x, 0, 2, 1, 1);
        Due.is("less", x.balance(0), MOST - 1);
        // 4294967296 and its like would be another amount if it were cut to an int.
        Due.move(x, 3, 1, 1L << 32, 1);
        Due.is("beyond an int", x.balance(1), 1L << 32);
        Due.is("beyond an int", x.balance(3), -(1L << 32));
    }

    private static void periodsNumbered() {
        Due.says("PERIODS 0, 1, .. follow one another, 24 at most");
        LedgerTwice x = new LedgerTwice();
        for (int p = 0; p < 24; p++) {
            Due.is("period " + p, x.period(p), p);
            int last = p;
            Due.refused(x, "not behind it", () -> x.period(last), -3);
        }
        Due.refused(x, "the 25th", () -> x.period(24), -13);
        Due.refused(x, "the 25th, the last day", () -> x.period(9999), -13);
        Due.is("how many", x.count(1), 24);
        Due.is("the 24th has its day", x.periodOf(23, 0), 23);
    }

    private static void periodDays() {
        Due.says("one reaches from the DAY behind the last one of that before it (0 of the first) to its LAST DAY "
            + "(9999 at most).");
        LedgerTwice x = new LedgerTwice();
        x.account(1, 0, -1, false);
        Due.refused(x, "below the first day", () -> x.period(-1), -3);
        Due.refused(x, "beyond the last day", () -> x.period(10000), -3);
        Due.refused(x, "far beyond", () -> x.period(Due.MOST_INT), -3);
        Due.refused(x, "far below", () -> x.period(Due.LEAST_INT), -3);
        Due.is("one day", x.period(0), 0);
        Due.is("the first day", x.periodOf(0, 0), 0);
        Due.is("its last day", x.periodOf(0, 1), 0);
        Due.refused(x, "the same again", () -> x.period(0), -3);
        Due.is("up to the last day but one", x.period(9998), 1);
        Due.is("the first day", x.periodOf(1, 0), 1);
        Due.refused(x, "inside of it", () -> x.period(9997), -3);
        Due.is("the last day alone", x.period(9999), 2);
        Due.is("the first day", x.periodOf(2, 0), 9999);
        Due.is("the last day", x.periodOf(2, 1), 9999);
        Due.refused(x, "no day is left", () -> x.period(9999), -3);
        Due.refused(x, "no day is left", () -> x.period(10000), -3);
        LedgerTwice y = new LedgerTwice();
        Due.is("all days at once", y.period(9999), 0);
        Due.refused(y, "no day is left", () -> y.period(10000), -3);
    }

    private static void openAtFirst() {
        Due.says("They are OPEN at first, or CLOSED.");
        LedgerTwice x = Due.smallBooks();
        Due.is("open", x.periodOf(0, 2), 0);
        Due.is("open", x.periodOf(1, 2), 0);
        x.close();
        Due.is("closed", x.periodOf(0, 2), 1);
        Due.is("open", x.periodOf(1, 2), 0);
        x.close();
        Due.is("one that comes behind the closed ones", x.period(61), 2);
        Due.is("is open", x.periodOf(2, 2), 0);
        Due.is("takes an entry", Due.move(x, 2, 0, 1, 61), 0);
    }

    private static void entriesNumbered() {
        Due.says("ENTRIES are numbered from 0 as they are WRITTEN, 400 at most");
        LedgerTwice x = Due.smallBooks();
        Due.refused(x, "a refused one takes no number", () -> x.post(3, 3), -7);
        Due.is("post", Due.move(x, 2, 0, 9, 60), 0);
        Due.is("back", x.back(0, 0), 1);
        x.line(2, 1);
        Due.is("share, an earlier day", x.share(0, 5, 0, 0), 2);
        x.close();
        Due.is("close", x.periodOf(0, 3), 3);
        x.reopen();
        Due.is("reopen", x.entry(4, 2), 3);
        Due.is("how many", x.count(3), 5);
    }

    /** Each of the five calls that write an entry writes the 400th one, and none the 401st. */
    private static void the400th() {
        Due.says("400 at most");
        LedgerTwice x = Due.booksOfEntries(399);
        Due.is("post", Due.move(x, 2, 0, 1, 31), 399);
        noMore(x);
        LedgerTwice y = Due.booksOfEntries(399);
        y.line(0, 1);
        Due.is("share", y.share(2, 1, 31, 1), 399);
        noMore(y);
        LedgerTwice z = Due.booksOfEntries(399);
        Due.is("back", z.back(0, 31), 399);
        noMore(z);
        LedgerTwice v = Due.booksOfEntries(399);
        Due.is("close", v.close(), 0);
        Due.is("it is the 400th", v.periodOf(0, 3), 399);
        noMore(v);
        LedgerTwice w = Due.smallBooks();
        Due.move(w, 2, 0, 1, 3);
        Due.move(w, 2, 0, 1, 3);
        Due.turned(w, 399);
        Due.is("reopen", w.reopen(), 0);
        Due.is("it is the 400th", w.entry(399, 2), 3);
        noMore(w);
    }

    private static void noMore(LedgerTwice x) {
        Due.is("400 entries", x.count(3), 400);
        x.line(0, 1);
        x.line(3, -1);
        Due.refused(x, "post", () -> x.post(31, 0), -13);
        x.drop();
        x.line(0, 1);
        Due.refused(x, "share", () -> x.share(3, 1, 31, 0), -13);
        x.drop();
        if (x.entry(0, 4) < 0) {
            Due.refused(x, "back", () -> x.back(0, 31), -13);
        }
        if (x.count(2) == 0) {
            Due.refused(x, "close with lines", () -> x.close(), -13);
        } else {
            Due.refused(x, "reopen with lines", () -> x.reopen(), -13);
            x.crash(6000, 0);
            Due.is("recover", x.recover() > 400 ? 1 : 0, 1);
            Due.refused(x, "reopen with lines, when made anew", () -> x.reopen(), -13);
        }
        Due.is("no 401st", x.entry(400, 0), -2);
    }

    private static void tags() {
        Due.says("a DAY, a TAG (an int)");
        LedgerTwice x = Due.smallBooks();
        int[] tags = {0, 1, -1, Due.LEAST_INT, Due.MOST_INT, LedgerTwice.UNKNOWN, LedgerTwice.FULL, 65536};
        for (int i = 0; i < tags.length; i++) {
            x.line(0, 1);
            x.line(2, -1);
            Due.is("tag " + tags[i], x.post(3, tags[i]), i);
        }
        x.crash(6000, 0);
        x.recover();
        for (int i = 0; i < tags.length; i++) {
            Due.is("tag told", x.entry(i, 1), tags[i]);
            Due.is("day told", x.entry(i, 0), 3);
        }
    }

    private static void amounts() {
        Due.says("LINES: each a LEAF and an AMOUNT that is not 0, -1000000000000000 .. 1000000000000000.");
        LedgerTwice x = Due.smallBooks();
        x.account(500, 0, -1, true);
        for (long amount : new long[] {0, MOST + 1, -MOST - 1, 1L << 62, Due.LEAST, Long.MAX_VALUE}) {
            Due.refused(x, "line of " + amount, () -> x.line(0, amount), -3);
        }
        Due.refused(x, "line of a group", () -> x.line(4, 1), -4);
        long[] taken = {1, -1, MOST, -MOST, 1, -1};
        for (int i = 0; i < taken.length; i++) {
            Due.is("line of " + taken[i], x.line(i % 4, taken[i]), i + 1);
        }
        Due.is("post", x.post(3, 3), 0);
        Due.is("lines", Due.linesOf(x, 0), "0:1 1:-1 2:" + MOST + " 3:" + -MOST + " 0:1 1:-1");
    }

    private static void sorts() {
        Due.says("SORTS: 0 plain, 1 BACK of another one, 2 CLOSING, 3 OPENING.");
        LedgerTwice x = Due.smallBooks();
        Due.move(x, 2, 0, 5, 3);
        x.back(0, 31);
        x.close();
        x.reopen();
        x.line(0, 1);
        x.share(2, 1, 3, 3);
        int[] sorts = {0, 1, 2, 3, 0};
        for (int e = 0; e < sorts.length; e++) {
            Due.is("sort of " + e, x.entry(e, 2), sorts[e]);
        }
    }

    private static void balanceOfLeaf() {
        Due.says("THE BALANCE of a LEAF are its AMOUNTS in all ENTRIES together");
        LedgerTwice x = Due.smallBooks();
        Due.is("no entry", x.balance(2), 0);
        x.line(0, 5);
        x.line(0, 6);
        x.line(2, -11);
        Due.is("a draft is no entry", x.balance(0), 0);
        x.post(60, 0);
        Due.is("two lines of one entry", x.balance(0), 11);
        Due.move(x, 2, 0, 100, 0);
        Due.is("of all days", x.balance(2), -111);
        x.back(0, 31);
        Due.is("a back", x.balance(2), -100);
        x.close();
        Due.is("a closing", x.balance(2), 0);
        Due.is("the owner's", x.balance(1), -100);
        x.reopen();
        Due.is("an opening", x.balance(2), -100);
        Due.is("the owner's", x.balance(1), 0);
    }

    private static void balanceOfGroup() {
        Due.says("of a GROUP those of all LEAVES under it.");
        LedgerTwice x = new LedgerTwice();
        for (int depth = 0; depth < 5; depth++) {
            x.account(10 + depth, 0, depth - 1, true);
        }
        Due.is("no leaf under it", x.balance(0), 0);
        x.account(20, 0, 4, false);
        x.account(21, 0, 1, false);
        x.account(22, 0, -1, false);
        x.account(23, 0, 4, false);
        x.account(30, 1, -1, false);
        x.account(31, 1, -1, false);
        x.period(30);
        for (int i = 0; i < 10; i++) {
            Due.move(x, 9, 5, MOST, 1);
            Due.move(x, 10, 8, MOST, 1);
        }
        Due.is("beyond that of a leaf", x.balance(4), 20 * MOST);
        Due.is("as far as the top", x.balance(0), 20 * MOST);
        Due.move(x, 7, 6, 3, 1);
        Due.is("not of those beside it", x.balance(2), 20 * MOST);
        Due.is("of those nearer to the top", x.balance(1), 20 * MOST + 3);
        Due.is("the leaf beside", x.balance(7), -3);
    }
}
