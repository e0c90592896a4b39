/** The edges of promises 6 to 12: line, drop, post, back, close, reopen, share. */
public final class EdgesEntriesTest {
    private static final long MOST = Due.MOST;

    public static void main(String[] args) {
        line();
        lineRefused();
        draftGoesByCrash();
        drop();
        post();
        postJudged();
        postNoDay();
        postKeepsTheDraft();
        back();
        backRefused();
        close();
        closeNotJudged();
        closeNot();
        closeOver();
        closeFull();
        reopen();
        reopenWithoutClosing();
        reopenRefused();
        share();
        shareOfNothing();
        shareEmptiesTheDraft();
        shareRefused();
        shareJudged();
        Due.end();
    }

    private static void line() {
        Due.says("A LINE more of THE DRAFT: how many.");
        LedgerTwice x = Due.smallBooks();
        for (int i = 1; i <= 8; i++) {
            Due.is("line " + i, x.line(0, i), i);
            Due.is("told", x.count(4), i);
        }
        x.shut(2, true);
        x.drop();
        Due.is("of a shut leaf", x.line(2, 1), 1);
        Due.is("the same once more", x.line(2, 1), 2);
    }

    private static void lineRefused() {
        Due.says("UNKNOWN; OUTSIDE: the AMOUNT; KIND: a GROUP; FULL.");
        LedgerTwice x = Due.smallBooks();
        x.account(500, 0, -1, true);
        for (int account : new int[] {-1, 5, 60, Due.LEAST_INT, Due.MOST_INT}) {
            Due.refused(x, "line of " + account, () -> x.line(account, 1), -2);
        }
        for (long amount : new long[] {0, MOST + 1, -MOST - 1, Due.LEAST, Long.MAX_VALUE, 1L << 63}) {
            Due.refused(x, "line of " + amount, () -> x.line(0, amount), -3);
        }
        Due.refused(x, "line of a group", () -> x.line(4, 1), -4);
        for (int i = 0; i < 8; i++) {
            x.line(0, MOST);
        }
        Due.refused(x, "line 9", () -> x.line(0, 1), -13);
        LedgerTwice y = Due.booksWithRoom(0);
        Due.is("a full journal is no matter", y.line(0, 1), 1);
    }

    private static void draftGoesByCrash() {
        Due.says("(THE DRAFT is no part of THE JOURNAL: it goes by crash().)");
        LedgerTwice x = Due.smallBooks();
        int bytes = x.count(5);
        x.line(0, 1);
        x.line(2, -1);
        Due.is("no byte", x.count(5), bytes);
        x.sync();
        x.crash(6000, 0);
        x.recover();
        Due.is("it is gone", x.count(4), 0);
        Due.is("it is gone", x.post(3, 3), -7);
        Due.is("a first line", x.line(3, 7), 1);
    }

    private static void drop() {
        Due.says("THE DRAFT is empty: how many LINES it had.");
        LedgerTwice x = Due.smallBooks();
        Due.is("none", x.drop(), 0);
        for (int i = 0; i < 8; i++) {
            x.line(0, 1);
        }
        Due.is("eight", x.drop(), 8);
        Due.is("none", x.drop(), 0);
        Due.is("told", x.count(4), 0);
        Due.is("post", x.post(3, 3), -7);
        x.line(2, 5);
        x.line(3, -5);
        Due.is("post", x.post(3, 3), 0);
        Due.is("nothing of those", Due.linesOf(x, 0), "2:5 3:-5");
    }

    private static void post() {
        Due.says("THE DRAFT becomes an ENTRY, and is empty: its number.");
        LedgerTwice x = Due.smallBooks();
        x.line(0, 5);
        x.line(2, -5);
        Due.is("post", x.post(0, 9), 0);
        Due.is("empty", x.count(4), 0);
        int[] due = {0, 9, 0, 2, -1, -1};
        for (int what = 0; what < due.length; what++) {
            Due.is("entry(0, " + what + ")", x.entry(0, what), due[what]);
        }
        x.line(3, 6);
        x.line(0, -6);
        Due.is("post", x.post(60, 9), 1);
        Due.is("the first is as it was", Due.linesOf(x, 0), "0:5 2:-5");
        Due.is("lines", Due.linesOf(x, 1), "3:6 0:-6");
    }

    private static void postJudged() {
        Due.says("What TO JUDGE says.");
        LedgerTwice x = Due.smallBooks();
        x.close();
        Due.refused(x, "FEW", () -> x.post(33, 3), -7);
        x.line(0, 5);
        x.line(2, -4);
        Due.refused(x, "UNEQUAL", () -> x.post(33, 3), -8);
        x.line(2, -1);
        Due.refused(x, "NODAY", () -> x.post(61, 3), -9);
        Due.refused(x, "CLOSED", () -> x.post(30, 3), -10);
        x.shut(2, true);
        Due.refused(x, "SHUT", () -> x.post(33, 3), -11);
        x.shut(2, false);
        Due.is("none of them", x.post(33, 3), 0);
    }

    private static void postNoDay() {
        Due.says("(A DAY of 0 .. 9999 is none of OUTSIDE's: NODAY.");
        LedgerTwice x = Due.smallBooks();
        x.line(0, 1);
        x.line(2, -1);
        for (int day : new int[] {-1, 61, 9999, 10000, Due.LEAST_INT, Due.MOST_INT}) {
            Due.refused(x, "post on day " + day, () -> x.post(day, 3), -9);
        }
        x.post(3, 3);
        x.line(0, 1);
        for (int day : new int[] {-1, 61, 9999, 10000, Due.LEAST_INT, Due.MOST_INT}) {
            Due.refused(x, "back on day " + day, () -> x.back(0, day), -9);
            Due.refused(x, "share on day " + day, () -> x.share(2, 1, day, 3), -9);
        }
    }

    private static void postKeepsTheDraft() {
        Due.says("A refused one keeps THE DRAFT.)");
        LedgerTwice x = Due.smallBooks();
        x.line(0, 5);
        Due.is("FEW", x.post(3, 3), -7);
        x.line(2, -3);
        Due.is("UNEQUAL", x.post(3, 3), -8);
        x.line(3, -2);
        Due.is("NODAY", x.post(61, 3), -9);
        Due.is("three lines", x.count(4), 3);
        Due.is("post", x.post(3, 3), 0);
        Due.is("all of them", Due.linesOf(x, 0), "0:5 2:-3 3:-2");
    }

    private static void back() {
        Due.says("BACK of an ENTRY: its number.");
        LedgerTwice x = Due.smallBooks();
        Due.move(x, 2, 0, 5, 3);
        Due.move(x, 3, 0, 6, 4);
        x.close();
        Due.is("into an open period", x.back(1, 31), 3);
        int[] due = {31, 0, 1, 2, -1, 1};
        for (int what = 0; what < due.length; what++) {
            Due.is("entry(3, " + what + ")", x.entry(3, what), due[what]);
        }
        Due.is("its back", x.entry(1, 4), 3);
        Due.is("the other has none", x.entry(0, 4), -1);
        x.line(0, 9);
        Due.is("the other's", x.back(0, 60), 4);
        Due.is("the draft stays", x.count(4), 1);
    }

    private static void backRefused() {
        Due.says("UNKNOWN; KIND: it is not plain; TWICE: it has one already; what TO JUDGE says.");
        LedgerTwice x = Due.smallBooks();
        Due.refused(x, "there is none", () -> x.back(0, 3), -2);
        Due.move(x, 2, 0, 5, 3);
        Due.move(x, 2, 0, 5, 3);
        x.back(0, 3);
        x.close();
        x.reopen();
        for (int entry : new int[] {-1, 5, 400, Due.LEAST_INT, Due.MOST_INT}) {
            Due.refused(x, "back of " + entry, () -> x.back(entry, 3), -2);
        }
        Due.refused(x, "a back", () -> x.back(2, 3), -4);
        Due.refused(x, "a closing", () -> x.back(3, 3), -4);
        Due.refused(x, "an opening", () -> x.back(4, 3), -4);
        Due.refused(x, "twice", () -> x.back(0, 3), -5);
        Due.refused(x, "NODAY", () -> x.back(1, 61), -9);
        x.shut(2, true);
        Due.refused(x, "SHUT", () -> x.back(1, 3), -11);
        x.close();
        Due.refused(x, "CLOSED", () -> x.back(1, 3), -10);
        x.shut(2, false);
        Due.is("a refused one is none", x.entry(1, 4), -1);
        Due.is("none of them", x.back(1, 33), 6);
    }

    private static void close() {
        Due.says("The first OPEN PERIOD is CLOSED: its number; if its CLOSING has LINES, it is WRITTEN as an ENTRY");
        LedgerTwice x = Due.smallBooks();
        x.period(90);
        Due.move(x, 2, 0, 5, 33);
        Due.is("the first", x.close(), 0);
        Due.is("no lines, no entry", x.count(3), 1);
        Due.is("no closing", x.periodOf(0, 3), -1);
        Due.is("the second", x.close(), 1);
        Due.is("an entry", x.count(3), 2);
        Due.is("its closing", x.periodOf(1, 3), 1);
        Due.is("closed", x.periodOf(0, 2) + x.periodOf(1, 2), 2);
        Due.is("the third is not", x.periodOf(2, 2), 0);
        int[] due = {60, 0, 2, 2, -1, 1};
        for (int what = 0; what < due.length; what++) {
            Due.is("entry(1, " + what + ")", x.entry(1, what), due[what]);
        }
        x.line(0, 1);
        x.close();
        Due.is("the draft stays", x.count(4), 1);
        LedgerTwice y = Due.smallBooks();
        y.period(90);
        y.close();
        y.close();
        y.reopen();
        Due.is("the first that is open, again", y.close(), 1);
    }

    private static void closeNotJudged() {
        Due.says("(not JUDGED but by OVER, FULL).");
        LedgerTwice x = Due.smallBooks();
        Due.move(x, 2, 0, 5, 3);
        for (int leaf = 0; leaf < 4; leaf++) {
            x.shut(leaf, true);
        }
        Due.is("not by SHUT", x.close(), 0);
        Due.is("an entry", x.entry(1, 2), 2);
        Due.is("opening neither", x.reopen(), 0);
        Due.is("an entry", x.entry(2, 2), 3);
    }

    private static void closeNot() {
        Due.says("NOT: there is none, or no OWNER; OVER; FULL: 400 ENTRIES, if it has LINES; THE JOURNAL.");
        LedgerTwice x = new LedgerTwice();
        Due.refused(x, "neither", () -> x.close(), -6);
        x.account(1, 2, -1, false);
        x.period(3);
        Due.refused(x, "no owner, though it has no lines", () -> x.close(), -6);
        x.owner(0);
        Due.is("both", x.close(), 0);
        Due.refused(x, "none is open", () -> x.close(), -6);
        x.period(4);
        Due.is("one more", x.close(), 1);
        LedgerTwice y = new LedgerTwice();
        y.account(1, 2, -1, false);
        y.owner(0);
        Due.refused(y, "no period", () -> y.close(), -6);
    }

    private static void closeOver() {
        Due.says("OVER; FULL: 400 ENTRIES, if it has LINES; THE JOURNAL.");
        // The owner would come beyond the least: by one.
        LedgerTwice x = Due.smallBooks();
        x.account(500, 2, -1, false);
        Due.move(x, 2, 0, MOST, 3);
        for (int i = 0; i < 9; i++) {
            Due.move(x, 1, 3, MOST, 40);
        }
        Due.move(x, 1, 0, 1, 40);
        Due.refused(x, "the owner", () -> x.close(), -12);
        Due.move(x, 0, 1, 1, 40);
        Due.is("to the least", x.close(), 0);
        Due.is("the owner", x.balance(1), -10 * MOST);
        // A leaf of income would, and the owner would not.
        LedgerTwice y = Due.smallBooks();
        Due.move(y, 3, 2, 1, 3);
        for (int i = 0; i < 10; i++) {
            Due.move(y, 2, 0, MOST, 40);
        }
        Due.move(y, 2, 3, 1, 40);
        Due.is("the leaf is at the least", y.balance(2), -10 * MOST);
        Due.refused(y, "the leaf", () -> y.close(), -12);
        Due.move(y, 3, 2, 1, 40);
        Due.is("to the least", y.close(), 0);
        Due.is("the leaf", y.balance(2), -10 * MOST);
    }

    private static void closeFull() {
        Due.says("FULL: 400 ENTRIES, if it has LINES; THE JOURNAL.");
        LedgerTwice x = Due.booksOfEntries(400);
        Due.is("closed", x.count(2), 1);
        Due.is("without lines", x.close(), 1);
        Due.is("without lines", x.reopen(), 1);
        Due.refused(x, "with lines, an opening", () -> x.reopen(), -13);
        LedgerTwice y = Due.smallBooks();
        Due.move(y, 2, 0, 1, 3);
        Due.move(y, 2, 0, 1, 3);
        Due.turned(y, 400);
        Due.refused(y, "with lines, a closing", () -> y.close(), -13);
        LedgerTwice z = Due.booksWithRoom(3);
        Due.refused(z, "the journal", () -> z.close(), -13);
        LedgerTwice v = Due.booksWithRoom(7);
        v.close();
        Due.refused(v, "the journal, with lines", () -> v.close(), -13);
        Due.refused(v, "the journal, without lines", () -> v.reopen(), -13);
    }

    private static void reopen() {
        Due.says("The last CLOSED PERIOD is OPEN again: its number; if its CLOSING was WRITTEN, its OPENING is, as an "
            + "ENTRY (likewise).");
        LedgerTwice x = Due.smallBooks();
        x.period(90);
        Due.move(x, 2, 0, 5, 3);
        x.close();
        x.close();
        Due.is("the last one that is closed", x.reopen(), 1);
        Due.is("no closing, no opening", x.count(3), 2);
        Due.is("the one before", x.reopen(), 0);
        Due.is("an opening", x.count(3), 3);
        int[] due = {30, 0, 3, 2, -1, 0};
        for (int what = 0; what < due.length; what++) {
            Due.is("entry(2, " + what + ")", x.entry(2, what), due[what]);
        }
        Due.is("its closing was opened", x.periodOf(0, 3), -1);
        Due.is("open", x.count(2), 0);
        Due.is("an entry is taken again", Due.move(x, 2, 0, 5, 3), 3);
        x.shut(2, true);
        x.close();
        Due.is("not by SHUT", x.reopen(), 0);
    }

    private static void reopenWithoutClosing() {
        Due.says("if its CLOSING was WRITTEN, its OPENING is");
        LedgerTwice x = Due.smallBooks();
        Due.move(x, 2, 0, 5, 3);
        x.close();
        x.reopen();
        x.back(0, 3);
        Due.is("nothing is left to close", x.close(), 0);
        Due.is("no closing", x.count(3), 4);
        Due.is("told", x.periodOf(0, 3), -1);
        Due.is("so there is nothing to open", x.reopen(), 0);
        Due.is("no opening of the one before", x.count(3), 4);
        Due.is("the owner", x.balance(1), 0);
        LedgerTwice y = Due.smallBooks();
        Due.move(y, 2, 0, 5, 33);
        y.close();
        y.back(0, 33);
        Due.is("no opening of what came between", y.reopen(), 0);
        Due.is("no opening of what came between", y.count(3), 2);
        y.close();
        y.line(0, 1);
        y.share(3, 1, 33, 3);
        Due.is("no opening of what came between", y.reopen(), 0);
        Due.is("no opening of what came between", y.count(3), 3);
    }

    private static void reopenRefused() {
        Due.says("NOT: there is none; OVER; FULL.");
        LedgerTwice x = Due.smallBooks();
        Due.refused(x, "none is closed", () -> x.reopen(), -6);
        x.close();
        x.reopen();
        Due.refused(x, "none is closed any more", () -> x.reopen(), -6);
        Due.move(x, 2, 0, MOST, 3);
        x.close();
        for (int i = 0; i < 10; i++) {
            Due.move(x, 0, 1, MOST, 40);
        }
        Due.move(x, 2, 1, 1, 40);
        Due.is("near the most", x.balance(1), 9 * MOST + 1);
        Due.refused(x, "beyond it by one", () -> x.reopen(), -12);
        Due.move(x, 1, 2, 1, 40);
        Due.is("to the most", x.reopen(), 0);
        Due.is("the owner", x.balance(1), 10 * MOST);
        LedgerTwice y = Due.booksOfEntries(400);
        Due.refused(y, "400 entries", () -> y.reopen(), -13);
        LedgerTwice z = Due.booksWithRoom(7);
        z.close();
        Due.refused(z, "the journal", () -> z.reopen(), -13);
    }

    private static void share() {
        Due.says("A plain ENTRY: a LINE of a LEAF of less the AMOUNT; then for each LINE of THE DRAFT, whose AMOUNTS "
            + "are WEIGHTS, its LEAF and its SHARE of the AMOUNT");
        LedgerTwice x = Due.smallBooks();
        x.line(3, 1);
        x.line(0, 1000);
        x.line(3, 1);
        Due.is("share", x.share(2, -MOST, 0, -13), 0);
        Due.is("lines", Due.linesOf(x, 0), "2:" + MOST + " 3:-998003992016 0:-998003992015968 3:-998003992016");
        int[] due = {0, -13, 0, 4, -1, -1};
        for (int what = 0; what < due.length; what++) {
            Due.is("entry(0, " + what + ")", x.entry(0, what), due[what]);
        }
        x.line(2, 7);
        Due.is("one line, its own leaf", x.share(2, 9, 60, 0), 1);
        Due.is("lines", Due.linesOf(x, 1), "2:-9 2:9");
        Due.is("back of a share", x.back(0, 60), 2);
    }

    private static void shareOfNothing() {
        Due.says("(none, where that is 0).");
        LedgerTwice x = Due.smallBooks();
        x.shut(3, true);
        x.line(3, 1);
        x.line(0, 2);
        x.line(3, 1);
        Due.is("share, though a leaf that gets none is shut", x.share(2, 1, 3, 3), 0);
        Due.is("lines", Due.linesOf(x, 0), "2:-1 0:1");
        Due.is("none", x.of(3, 6), 0);
        x.line(3, 1);
        x.line(0, 1);
        Due.refused(x, "it would get one", () -> x.share(2, 1, 3, 3), -11);
    }

    private static void shareEmptiesTheDraft() {
        Due.says("THE DRAFT is empty then (a refused one keeps it): its number.");
        LedgerTwice x = Due.smallBooks();
        x.line(0, 1);
        x.line(3, 2);
        Due.refused(x, "no such day", () -> x.share(2, 3, 61, 3), -9);
        Due.refused(x, "no amount", () -> x.share(2, 0, 3, 3), -3);
        Due.is("two lines", x.count(4), 2);
        Due.is("share", x.share(2, 3, 3, 3), 0);
        Due.is("as they were", Due.linesOf(x, 0), "2:-3 0:1 3:2");
        Due.is("empty", x.count(4), 0);
        Due.refused(x, "nothing to share by", () -> x.share(2, 3, 3, 3), -6);
    }

    private static void shareRefused() {
        Due.says("UNKNOWN; OUTSIDE: the AMOUNT (0, too), a WEIGHT (1 .. 1000), more than 7 of them; KIND: a GROUP; "
            + "NOT: THE DRAFT is empty; what TO JUDGE says.");
        LedgerTwice x = Due.smallBooks();
        x.account(500, 0, -1, true);
        Due.refused(x, "an empty draft", () -> x.share(0, 1, 3, 3), -6);
        x.line(0, 1);
        for (int account : new int[] {-1, 5, 60, Due.LEAST_INT, Due.MOST_INT}) {
            Due.refused(x, "share of " + account, () -> x.share(account, 1, 3, 3), -2);
        }
        for (long amount : new long[] {0, MOST + 1, -MOST - 1, Due.LEAST, Long.MAX_VALUE}) {
            Due.refused(x, "share of " + amount, () -> x.share(2, amount, 3, 3), -3);
        }
        Due.refused(x, "share of a group", () -> x.share(4, 1, 3, 3), -4);
        for (long weight : new long[] {-1, 1001, -1000, MOST, -MOST, (1L << 32) + 1}) {
            x.line(3, weight);
            Due.refused(x, "weight " + weight, () -> x.share(2, 1, 3, 3), -3);
            x.drop();
            x.line(0, 1);
        }
        for (int i = 1; i < 7; i++) {
            x.line(0, 1000);
        }
        Due.is("seven", x.share(2, 6001, 3, 3), 0);
        for (int i = 0; i < 8; i++) {
            x.line(0, 1);
        }
        Due.refused(x, "eight", () -> x.share(2, 8, 3, 3), -3);
    }

    private static void shareJudged() {
        Due.says("what TO JUDGE says.");
        LedgerTwice x = Due.smallBooks();
        x.line(0, 1);
        Due.refused(x, "NODAY", () -> x.share(2, 1, -1, 3), -9);
        x.shut(2, true);
        Due.refused(x, "SHUT, its own leaf", () -> x.share(2, 1, 3, 3), -11);
        x.shut(2, false);
        x.shut(0, true);
        Due.refused(x, "SHUT, one of the draft", () -> x.share(2, 1, 3, 3), -11);
        x.shut(0, false);
        x.close();
        Due.refused(x, "CLOSED", () -> x.share(2, 1, 30, 3), -10);
        for (int i = 0; i < 10; i++) {
            Due.is("share of the most", x.share(2, MOST, 31, 3), i);
            x.line(0, 1);
        }
        Due.refused(x, "OVER", () -> x.share(2, 1, 31, 3), -12);
        Due.refused(x, "OVER, the draft's leaf alone", () -> x.share(3, 1, 31, 3), -12);
        Due.is("the other way", x.share(2, -1, 31, 3), 10);
    }
}
