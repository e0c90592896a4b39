/** What is refused, in which order, and what a call answers when the books are DOWN. */
public final class EdgesRefusedTest {
    private static final long MOST = Due.MOST;

    public static void main(String[] args) {
        account();
        shut();
        period();
        owner();
        line();
        back();
        close();
        reopen();
        share();
        told();
        journalIsTheLast();
        keepsTheDraft();
        keepsTheSheet();
        downBooks();
        downEntries();
        downTold();
        downJournal();
        downPart();
        downCounts();
        upAgain();
        Due.end();
    }

    private static void account() {
        Due.says("Refused, and nothing changes: UNKNOWN (no such ACCOUNT, ENTRY, PERIOD, LINE, byte), OUTSIDE (another "
            + "number is not as told), KIND (an ACCOUNT is not what is wanted), TWICE, NOT (not now), what TO JUDGE "
            + "says, FULL: the first of these that fits, in this order.");
        LedgerTwice x = new LedgerTwice();
        for (int i = 0; i < 60; i++) {
            x.account(1 + i, 0, -1, i == 1);
        }
        Due.refused(x, "UNKNOWN ahead of OUTSIDE, FULL", () -> x.account(0, 9, 60, true), -2);
        Due.refused(x, "OUTSIDE ahead of KIND, FULL", () -> x.account(0, 0, 0, true), -3);
        Due.refused(x, "OUTSIDE, the kind", () -> x.account(1, 5, 0, true), -3);
        Due.refused(x, "KIND ahead of TWICE, FULL", () -> x.account(1, 0, 0, true), -4);
        Due.refused(x, "KIND, another kind", () -> x.account(1, 1, 1, true), -4);
        Due.refused(x, "TWICE ahead of FULL", () -> x.account(1, 0, 1, true), -5);
        Due.refused(x, "FULL", () -> x.account(61, 0, 1, true), -13);
    }

    /** A full journal, a group 4. */
    private static LedgerTwice full() {
        LedgerTwice x = Due.booksWithRoom(10);
        Due.is("a group", x.account(9999, 2, -1, true), 4);
        Due.is("full", x.count(5), 6000);
        return x;
    }

    private static void shut() {
        Due.says("the first of these that fits, in this order.");
        LedgerTwice x = full();
        Due.refused(x, "UNKNOWN", () -> x.shut(5, false), -2);
        Due.refused(x, "KIND ahead of NOT", () -> x.shut(4, false), -4);
        Due.refused(x, "NOT ahead of FULL", () -> x.shut(0, false), -6);
        Due.refused(x, "FULL", () -> x.shut(0, true), -13);
    }

    private static void period() {
        Due.says("the first of these that fits, in this order.");
        LedgerTwice x = new LedgerTwice();
        for (int p = 0; p < 24; p++) {
            x.period(p);
        }
        Due.refused(x, "OUTSIDE ahead of FULL", () -> x.period(23), -3);
        Due.refused(x, "OUTSIDE ahead of FULL", () -> x.period(10000), -3);
        Due.refused(x, "FULL", () -> x.period(24), -13);
        LedgerTwice y = full();
        Due.refused(y, "OUTSIDE ahead of FULL", () -> y.period(60), -3);
        Due.refused(y, "FULL", () -> y.period(61), -13);
    }

    private static void owner() {
        Due.says("the first of these that fits, in this order.");
        LedgerTwice x = full();
        Due.refused(x, "UNKNOWN", () -> x.owner(5), -2);
        Due.refused(x, "KIND ahead of FULL: another kind", () -> x.owner(0), -4);
        Due.refused(x, "KIND ahead of FULL: a group", () -> x.owner(4), -4);
        Due.refused(x, "FULL", () -> x.owner(1), -13);
    }

    private static void line() {
        Due.says("the first of these that fits, in this order.");
        LedgerTwice x = Due.smallBooks();
        x.account(9999, 2, -1, true);
        for (int i = 0; i < 8; i++) {
            x.line(0, 1);
        }
        Due.refused(x, "UNKNOWN ahead of OUTSIDE, FULL", () -> x.line(5, 0), -2);
        Due.refused(x, "OUTSIDE ahead of KIND, FULL", () -> x.line(4, 0), -3);
        Due.refused(x, "KIND ahead of FULL", () -> x.line(4, 1), -4);
        Due.refused(x, "FULL", () -> x.line(3, 1), -13);
    }

    private static void back() {
        Due.says("the first of these that fits, in this order.");
        LedgerTwice x = Due.smallBooks();
        Due.move(x, 2, 0, 1, 3);
        x.back(0, 3);
        Due.move(x, 2, 0, 1, 3);
        Due.refused(x, "UNKNOWN ahead of NODAY", () -> x.back(3, 61), -2);
        Due.refused(x, "KIND ahead of NODAY", () -> x.back(1, 61), -4);
        Due.refused(x, "TWICE ahead of NODAY", () -> x.back(0, 61), -5);
        Due.refused(x, "NODAY", () -> x.back(2, 61), -9);
        Due.is("none of them", x.back(2, 60), 3);
    }

    private static void close() {
        Due.says("the first of these that fits, in this order.");
        LedgerTwice x = new LedgerTwice();
        x.account(1, 2, -1, false);
        Due.refused(x, "NOT: no period, no owner", () -> x.close(), -6);
        LedgerTwice y = Due.booksWithRoom(8);
        y.close();
        y.close();
        Due.refused(y, "NOT ahead of FULL", () -> y.close(), -6);
        LedgerTwice z = nearTheLeast();
        Due.move(z, 1, 3, MOST, 40);
        Due.is("400", z.count(3), 400);
        Due.refused(z, "FULL, as it comes to the least", () -> z.close(), -13);
        LedgerTwice v = nearTheLeast();
        long[] amounts = {MOST, 1};
        for (long amount : amounts) {
            v.line(1, -amount);
            v.line(3, amount);
        }
        v.post(40, 0);
        Due.is("400", v.count(3), 400);
        Due.refused(v, "OVER ahead of FULL", () -> v.close(), -12);
    }

    /** 399 entries; closing takes the most of an amount from the owner, who has eight of them less already. */
    private static LedgerTwice nearTheLeast() {
        LedgerTwice x = Due.smallBooks();
        Due.move(x, 2, 0, MOST, 3);
        for (int i = 0; i < 8; i++) {
            Due.move(x, 1, 3, MOST, 40);
        }
        Due.turned(x, 399);
        Due.is("open", x.count(2), 0);
        return x;
    }

    private static void reopen() {
        Due.says("the first of these that fits, in this order.");
        LedgerTwice x = full();
        Due.refused(x, "NOT ahead of FULL", () -> x.reopen(), -6);
        LedgerTwice y = Due.booksWithRoom(4);
        y.close();
        Due.refused(y, "FULL", () -> y.reopen(), -13);
        LedgerTwice z = nearTheMost(0);
        Due.refused(z, "FULL, as it comes to the most", () -> z.reopen(), -13);
        LedgerTwice v = nearTheMost(1);
        Due.refused(v, "OVER ahead of FULL", () -> v.reopen(), -12);
    }

    /** 400 entries; opening gives the most of an amount to the owner, who has nine of them already, and this. */
    private static LedgerTwice nearTheMost(long more) {
        LedgerTwice x = Due.smallBooks();
        Due.move(x, 2, 0, MOST, 3);
        Due.move(x, 0, 0, 1, 3);
        Due.turned(x, 397);
        Due.is("closed", x.count(2), 1);
        for (int post = 0; post < 3; post++) {
            for (int i = 0; i < (post < 2 ? 4 : 2); i++) {
                x.line(1, MOST);
                x.line(0, -MOST);
            }
            if (post == 2 && more > 0) {
                x.line(1, more);
                x.line(0, -more);
            }
            x.post(40, 0);
        }
        Due.is("400", x.count(3), 400);
        Due.is("owner", x.balance(1), 9 * MOST + more);
        return x;
    }

    private static void share() {
        Due.says("the first of these that fits, in this order.");
        LedgerTwice x = Due.smallBooks();
        x.account(9999, 2, -1, true);
        Due.refused(x, "UNKNOWN ahead of OUTSIDE, NOT", () -> x.share(5, 0, 61, 0), -2);
        Due.refused(x, "OUTSIDE ahead of KIND, NOT", () -> x.share(4, 0, 61, 0), -3);
        Due.refused(x, "KIND ahead of NOT", () -> x.share(4, 1, 61, 0), -4);
        Due.refused(x, "NOT ahead of NODAY", () -> x.share(0, 1, 61, 0), -6);
        x.line(0, -1);
        Due.refused(x, "UNKNOWN ahead of OUTSIDE, a weight", () -> x.share(5, 1, 61, 0), -2);
        Due.refused(x, "OUTSIDE ahead of KIND, a weight", () -> x.share(4, 1, 61, 0), -3);
        Due.refused(x, "OUTSIDE ahead of NODAY", () -> x.share(0, 1, 61, 0), -3);
        x.drop();
        x.line(2, 1);
        Due.refused(x, "KIND ahead of NODAY", () -> x.share(4, 1, 61, 0), -4);
        Due.refused(x, "NODAY", () -> x.share(0, 1, 61, 0), -9);
    }

    private static void told() {
        Due.says("UNKNOWN (no such ACCOUNT, ENTRY, PERIOD, LINE, byte), OUTSIDE (another number is not as told)");
        LedgerTwice x = Due.smallBooks();
        Due.move(x, 2, 0, 1, 3);
        Due.is("of: UNKNOWN ahead of OUTSIDE", x.of(4, 7), -2);
        Due.is("of: OUTSIDE", x.of(3, 7), -3);
        Due.is("entry: UNKNOWN ahead of OUTSIDE", x.entry(1, 6), -2);
        Due.is("entry: OUTSIDE", x.entry(0, 6), -3);
        Due.is("periodOf: UNKNOWN ahead of OUTSIDE", x.periodOf(2, 4), -2);
        Due.is("periodOf: OUTSIDE", x.periodOf(1, 4), -3);
        Due.is("lineOf: no such entry", x.lineOf(1, 0, 0), Due.LEAST);
        Due.is("lineOf: no such line", x.lineOf(0, 2, 0), Due.LEAST);
        Due.is("lineOf: OUTSIDE", x.lineOf(0, 1, 2), Due.LEAST);
        Due.is("byteAt: no such byte", x.byteAt(x.count(5)), -2);
        Due.is("shown: no such byte", x.shown(0), -2);
    }

    /** FULL of the journal stands behind what TO JUDGE says, and behind all else. */
    private static void journalIsTheLast() {
        Due.says("what TO JUDGE says, FULL: the first of these that fits, in this order.");
        LedgerTwice x = full();
        Due.refused(x, "FEW", () -> x.post(61, 0), -7);
        x.line(0, 1);
        Due.refused(x, "FEW", () -> x.post(61, 0), -7);
        x.line(2, 1);
        Due.refused(x, "UNEQUAL", () -> x.post(61, 0), -8);
        x.line(2, -2);
        Due.refused(x, "NODAY", () -> x.post(61, 0), -9);
        Due.refused(x, "FULL", () -> x.post(60, 0), -13);
        x.drop();
        x.line(0, 1);
        Due.refused(x, "share: NODAY", () -> x.share(2, 1, 61, 0), -9);
        Due.refused(x, "share: FULL", () -> x.share(2, 1, 60, 0), -13);
        Due.refused(x, "back: UNKNOWN", () -> x.back(x.count(3), 60), -2);
        Due.refused(x, "back: NODAY", () -> x.back(0, 61), -9);
        Due.refused(x, "back: FULL", () -> x.back(0, 60), -13);
        Due.refused(x, "account: TWICE", () -> x.account(9999, 0, -1, true), -5);
        Due.refused(x, "account: FULL", () -> x.account(1, 0, -1, true), -13);
        Due.refused(x, "close: FULL", () -> x.close(), -13);
    }

    private static void keepsTheDraft() {
        Due.says("Refused, and nothing changes");
        LedgerTwice x = Due.smallBooks();
        x.line(0, 5);
        x.line(3, -4);
        Due.is("account", x.account(0, 0, -1, false), -3);
        Due.is("line", x.line(0, 0), -3);
        Due.is("post", x.post(3, 3), -8);
        Due.is("back", x.back(0, 3), -2);
        Due.is("reopen", x.reopen(), -6);
        Due.is("share", x.share(0, 5, 3, 3), -3);
        Due.is("crash", x.crash(-1, 0), -3);
        Due.is("recover", x.recover(), -6);
        x.line(2, -1);
        Due.is("post", x.post(3, 3), 0);
        Due.is("its lines are as they were", Due.linesOf(x, 0), "0:5 3:-4 2:-1");
    }

    private static void keepsTheSheet() {
        Due.says("Refused, and nothing changes");
        LedgerTwice x = Due.smallBooks();
        Due.move(x, 2, 0, 5, 3);
        x.sheet(0);
        Due.refused(x, "way -1", () -> x.sheet(-1), -3);
        Due.refused(x, "way 3", () -> x.sheet(3), -3);
        Due.refused(x, "by 256", () -> x.crash(0, 256), -3);
        Due.move(x, 2, 0, 5, 3);
        Due.is("it is as it was written", Due.sheetOf(x), "0100 0.05\n0300 -0.05\n");
    }

    private static LedgerTwice down() {
        LedgerTwice x = Due.smallBooks();
        Due.move(x, 2, 0, 5, 3);
        x.close();
        x.crash(6000, 0);
        return x;
    }

    private static void downBooks() {
        Due.says("When it is DOWN, all is NOT, ahead of all");
        LedgerTwice x = down();
        Due.refused(x, "account", () -> x.account(1, 0, -1, false), -6);
        Due.refused(x, "account, UNKNOWN", () -> x.account(0, 9, 99, false), -6);
        Due.refused(x, "account, OUTSIDE", () -> x.account(0, 0, -1, false), -6);
        Due.refused(x, "account, TWICE", () -> x.account(100, 0, -1, false), -6);
        Due.refused(x, "shut", () -> x.shut(0, true), -6);
        Due.refused(x, "shut, UNKNOWN", () -> x.shut(-1, true), -6);
        Due.refused(x, "period", () -> x.period(99), -6);
        Due.refused(x, "period, OUTSIDE", () -> x.period(-1), -6);
        Due.refused(x, "owner", () -> x.owner(1), -6);
        Due.refused(x, "owner, UNKNOWN", () -> x.owner(99), -6);
        Due.refused(x, "owner, KIND", () -> x.owner(0), -6);
    }

    private static void downEntries() {
        Due.says("When it is DOWN, all is NOT, ahead of all");
        LedgerTwice x = down();
        Due.refused(x, "line", () -> x.line(0, 1), -6);
        Due.refused(x, "line, UNKNOWN", () -> x.line(9, 1), -6);
        Due.refused(x, "line, OUTSIDE", () -> x.line(0, 0), -6);
        Due.refused(x, "drop", () -> x.drop(), -6);
        Due.refused(x, "post, FEW", () -> x.post(33, 1), -6);
        Due.refused(x, "back", () -> x.back(0, 33), -6);
        Due.refused(x, "back, UNKNOWN", () -> x.back(9, 33), -6);
        Due.refused(x, "back, KIND", () -> x.back(1, 33), -6);
        Due.refused(x, "close", () -> x.close(), -6);
        Due.refused(x, "reopen", () -> x.reopen(), -6);
        Due.refused(x, "share, UNKNOWN", () -> x.share(9, 1, 33, 1), -6);
        Due.refused(x, "share, OUTSIDE", () -> x.share(0, 0, 33, 1), -6);
        Due.refused(x, "sync", () -> x.sync(), -6);
    }

    private static void downTold() {
        Due.says("(the least long, where one is told)");
        LedgerTwice x = down();
        Due.is("of", x.of(0, 0), -6);
        Due.is("of, UNKNOWN", x.of(9, 0), -6);
        Due.is("of, OUTSIDE", x.of(0, 9), -6);
        Due.is("balance", x.balance(0), Due.LEAST);
        Due.is("balance, UNKNOWN", x.balance(9), Due.LEAST);
        Due.is("sum", x.sum(0, 0, 60), Due.LEAST);
        Due.is("entry", x.entry(0, 1), -6);
        Due.is("entry, UNKNOWN", x.entry(9, 1), -6);
        Due.is("entry, OUTSIDE", x.entry(0, 9), -6);
        Due.is("lineOf", x.lineOf(0, 0, 0), Due.LEAST);
        Due.is("ledger", x.ledger(0, 0, 0), Due.LEAST);
        Due.is("periodOf", x.periodOf(0, 0), -6);
        Due.is("periodOf, UNKNOWN", x.periodOf(9, 0), -6);
        Due.is("periodOf, OUTSIDE", x.periodOf(0, 9), -6);
        Due.is("sheet", x.sheet(2), -6);
        Due.is("sheet, OUTSIDE", x.sheet(3), -6);
        Due.is("shown", x.shown(0), -6);
        Due.is("shown, UNKNOWN", x.shown(-1), -6);
    }

    private static void downJournal() {
        Due.says("but recover(), crash(), byteAt(), part(), and count() of 5, 6, 7, 9, 10.");
        LedgerTwice x = down();
        int all = x.count(5);
        Due.is("byteAt", x.byteAt(0), 5);
        Due.is("the last one", x.byteAt(all - 1) >= 0 ? 1 : 0, 1);
        Due.is("byteAt, UNKNOWN", x.byteAt(all), -2);
        Due.is("byteAt, UNKNOWN", x.byteAt(-1), -2);
        Due.refused(x, "crash, OUTSIDE", () -> x.crash(-1, 0), -3);
        Due.refused(x, "crash, OUTSIDE", () -> x.crash(0, 256), -3);
        Due.is("crash", x.crash(all - 1, 0), all - 1);
        Due.is("crash again", x.crash(all - 4, 0), all - 4);
        Due.is("the close is lost", x.recover(), 8);
        Due.is("up", x.recover(), -6);
        Due.is("open", x.count(2), 0);
    }

    private static void downPart() {
        Due.says("but recover(), crash(), byteAt(), part()");
        LedgerTwice x = down();
        Due.is("part", x.part(5, 1, 1, 0, 0, 0), 3);
        Due.is("part", x.part(-5, 1, 1, 0, 0, 1), -2);
        Due.is("part, UNKNOWN", x.part(5, 1, 1, 0, 0, 4), Due.LEAST);
        Due.is("part, OUTSIDE", x.part(5, 0, 0, 0, 0, 0), Due.LEAST);
    }

    private static void downCounts() {
        Due.says("and count() of 5, 6, 7, 9, 10.");
        LedgerTwice x = Due.smallBooks();
        x.sync();
        Due.move(x, 2, 0, 5, 3);
        x.sheet(2);
        x.line(0, 1);
        int durable = x.count(6);
        x.crash(1, 0);
        int[] due = {-6, -6, -6, -6, -6, durable + 1, durable, 8, -6, 0, 0};
        for (int what = 0; what < due.length; what++) {
            Due.is("count(" + what + ")", x.count(what), due[what]);
        }
        Due.is("OUTSIDE", x.count(11), -3);
        Due.is("OUTSIDE", x.count(-1), -3);
    }

    private static void upAgain() {
        Due.says("When it is DOWN");
        LedgerTwice x = down();
        Due.is("recover", x.recover(), 9);
        Due.is("line", x.line(0, 1), 1);
        Due.is("drop", x.drop(), 1);
        Due.is("account", x.account(1, 0, -1, false), 4);
        Due.is("balance", x.balance(0), 5);
        Due.is("reopen", x.reopen(), 0);
        Due.is("sync", x.sync(), 12);
    }
}
