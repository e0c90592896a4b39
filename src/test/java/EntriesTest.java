/** Promises 6 to 9 and 20 to 22: line, drop, post, back, entry, lineOf, ledger; TO JUDGE. */
public final class EntriesTest {
    private static final long MOST = 1000000000000000L;

    public static void main(String[] args) {
        lines();
        drop();
        postJudged();
        postOrderOfJudging();
        postDays();
        postOver();
        entriesFull();
        back();
        backJudged();
        entryTold();
        lineOf();
        ledger();
        Due.end();
    }

    private static void lines() {
        LedgerTwice x = Due.smallBooks();
        x.account(500, 0, -1, true);
        Due.is("unknown leaf", x.line(5, 1), -2);
        Due.is("leaf -1", x.line(-1, 1), -2);
        Due.is("UNKNOWN ahead of OUTSIDE", x.line(5, 0), -2);
        Due.is("amount 0", x.line(0, 0), -3);
        Due.is("OUTSIDE ahead of KIND", x.line(4, 0), -3);
        Due.is("amount too great", x.line(0, MOST + 1), -3);
        Due.is("amount too small", x.line(0, -MOST - 1), -3);
        Due.is("least long", x.line(0, Due.LEAST), -3);
        Due.is("a group", x.line(4, 1), -4);
        Due.is("greatest", x.line(0, MOST), 1);
        Due.is("least", x.line(0, -MOST), 2);
        for (int i = 3; i <= 8; i++) {
            Due.is("line " + i, x.line(i % 4, i), i);
        }
        Due.is("line 9", x.line(0, 1), -13);
        Due.is("KIND ahead of FULL", x.line(4, 1), -4);
        Due.is("told", x.count(4), 8);
        Due.is("a draft is not written", x.count(7), 8);
        x.shut(0, true);
        x.drop();
        Due.is("a line of a shut leaf", x.line(0, 1), 1);
    }

    private static void drop() {
        LedgerTwice x = Due.smallBooks();
        x.line(0, 1);
        x.line(0, 1);
        Due.is("drop", x.drop(), 2);
        Due.is("again", x.drop(), 0);
        Due.is("empty", x.count(4), 0);
        Due.is("first line", x.line(0, 1), 1);
    }

    private static void postJudged() {
        LedgerTwice x = Due.smallBooks();
        Due.is("no line", x.post(1, 1), -7);
        x.line(0, 5);
        Due.is("one line", x.post(1, 1), -7);
        x.line(2, -4);
        Due.is("not nothing together", x.post(1, 1), -8);
        x.line(2, -1);
        Due.is("no such day", x.post(61, 1), -9);
        Due.is("day -1", x.post(-1, 1), -9);
        Due.is("least day", x.post(Integer.MIN_VALUE, 1), -9);
        x.shut(2, true);
        Due.is("shut", x.post(1, 1), -11);
        x.shut(2, false);
        Due.is("the draft is kept", x.count(4), 3);
        Due.is("nothing was entered", x.count(3), 0);
        Due.is("no balance", x.balance(0), 0);
        Due.is("posted", x.post(1, Integer.MIN_VALUE), 0);
        Due.is("the draft is empty", x.count(4), 0);
        Due.is("lines", Due.linesOf(x, 0), "0:5 2:-4 2:-1");
        Due.is("next", Due.move(x, 0, 0, 7, 60), 1);
        Due.is("lines of one leaf", Due.linesOf(x, 1), "0:7 0:-7");
        Due.is("balance", x.balance(0), 5);
    }

    private static void postOrderOfJudging() {
        LedgerTwice x = Due.smallBooks();
        x.close();
        x.shut(0, true);
        x.line(0, 5);
        Due.is("FEW ahead of all", x.post(99, 1), -7);
        x.line(0, 5);
        Due.is("UNEQUAL ahead of NODAY", x.post(99, 1), -8);
        x.drop();
        x.line(0, 5);
        x.line(2, -5);
        Due.is("NODAY", x.post(99, 1), -9);
        Due.is("CLOSED ahead of SHUT", x.post(30, 1), -10);
        Due.is("SHUT", x.post(31, 1), -11);
    }

    private static void postDays() {
        LedgerTwice x = Due.smallBooks();
        Due.is("first day", Due.move(x, 2, 0, 1, 0), 0);
        Due.is("last day", Due.move(x, 2, 0, 1, 60), 1);
        x.close();
        Due.is("last closed day", Due.move(x, 2, 0, 1, 30), -10);
        Due.is("first closed day", Due.move(x, 2, 0, 1, 0), -10);
        Due.is("first open day", Due.move(x, 2, 0, 1, 31), 3);
        LedgerTwice y = new LedgerTwice();
        y.account(1, 0, -1, false);
        Due.is("no period at all", Due.move(y, 0, 0, 1, 0), -9);
    }

    private static void postOver() {
        LedgerTwice x = Due.smallBooks();
        for (int i = 0; i < 10; i++) {
            Due.is("up to the most", Due.move(x, 2, 0, MOST, 1), i);
        }
        Due.is("balance", x.balance(0), 10 * MOST);
        Due.is("balance", x.balance(2), -10 * MOST);
        Due.is("one beyond", Due.move(x, 3, 0, 1, 1), -12);
        Due.is("one below", Due.move(x, 2, 3, 1, 1), -12);
        Due.is("the other way", Due.move(x, 0, 3, 1, 1), 10);
        Due.is("again to the most", Due.move(x, 3, 0, 1, 1), 11);
        x.line(0, 1);
        x.line(3, -1);
        x.line(0, -1);
        x.line(3, 1);
        Due.is("with all lines not beyond", x.post(1, 1), 12);
        x.shut(0, true);
        Due.is("SHUT ahead of OVER", Due.move(x, 3, 0, 1, 1), -11);
    }

    private static void entriesFull() {
        LedgerTwice x = Due.smallBooks();
        Due.move(x, 2, 0, 1, 1);
        for (int i = 0; i < 199; i++) {
            x.close();
            x.reopen();
        }
        Due.is("399 entries", x.count(3), 399);
        Due.is("the 400th", Due.move(x, 2, 0, 1, 31), 399);
        Due.is("one more", Due.move(x, 2, 0, 1, 31), -13);
        Due.is("back", x.back(0, 31), -13);
        Due.is("close with lines", x.close(), -13);
        Due.is("TWICE ahead of FULL", x.back(1, 31), -4);
        Due.is("still 400", x.count(3), 400);
        Due.is("nothing was closed", x.count(2), 0);
        LedgerTwice y = Due.smallBooks();
        Due.move(y, 2, 0, 1, 1);
        for (int i = 0; i < 199; i++) {
            y.close();
            y.reopen();
        }
        y.close();
        Due.is("400 by closing", y.count(3), 400);
        Due.is("reopen with lines", y.reopen(), -13);
        Due.is("close without lines", y.close(), 1);
        Due.is("reopen without lines", y.reopen(), 1);
    }

    private static void back() {
        LedgerTwice x = Due.smallBooks();
        x.line(0, 5);
        x.line(2, -3);
        x.line(3, -2);
        x.post(3, -77);
        Due.is("unknown", x.back(1, 3), -2);
        Due.is("unknown -1", x.back(-1, 3), -2);
        x.line(0, 9);
        Due.is("back", x.back(0, 40), 1);
        Due.is("the draft stays", x.count(4), 1);
        Due.is("lines", Due.linesOf(x, 1), "0:-5 2:3 3:2");
        int[] told = {40, -77, 1, 3, -1, 0};
        for (int what = 0; what < told.length; what++) {
            Due.is("entry(1, " + what + ")", x.entry(1, what), told[what]);
        }
        Due.is("its back", x.entry(0, 4), 1);
        Due.is("twice", x.back(0, 40), -5);
        Due.is("TWICE ahead of NODAY", x.back(0, 99), -5);
        Due.is("back of a back", x.back(1, 40), -4);
        Due.is("balance", x.balance(0), 0);
        x.drop();
        Due.move(x, 2, 0, 6, 3);
        x.close();
        x.reopen();
        Due.is("back of a closing", x.back(3, 40), -4);
        Due.is("back of an opening", x.back(4, 40), -4);
        Due.is("sorts", x.entry(3, 2) * 10 + x.entry(4, 2), 23);
    }

    private static void backJudged() {
        LedgerTwice x = Due.smallBooks();
        for (int i = 0; i < 10; i++) {
            Due.move(x, 2, 0, MOST, 1);
        }
        Due.move(x, 0, 3, 1, 31);
        Due.move(x, 3, 0, 1, 31);
        Due.is("no day", x.back(10, 61), -9);
        Due.is("over", x.back(10, 31), -12);
        Due.is("not back by a refused one", x.entry(10, 4), -1);
        x.shut(0, true);
        Due.is("shut", x.back(10, 31), -11);
        x.close();
        Due.is("closed", x.back(10, 30), -10);
        x.shut(0, false);
        Due.is("of a closed period", x.back(0, 31), 13);
    }

    private static void entryTold() {
        LedgerTwice x = Due.smallBooks();
        x.line(0, 1);
        x.line(2, -1);
        x.post(7, -13);
        int[] plain = {7, -13, 0, 2, -1, -1};
        x.close();
        int[] closing = {30, 0, 2, 2, -1, 0};
        x.reopen();
        int[] opening = {30, 0, 3, 2, -1, 0};
        for (int what = 0; what <= 5; what++) {
            Due.is("entry(0, " + what + ")", x.entry(0, what), plain[what]);
            Due.is("entry(1, " + what + ")", x.entry(1, what), closing[what]);
            Due.is("entry(2, " + what + ")", x.entry(2, what), opening[what]);
        }
        Due.is("what 6", x.entry(0, 6), -3);
        Due.is("what -1", x.entry(0, -1), -3);
        Due.is("UNKNOWN ahead of OUTSIDE", x.entry(3, 6), -2);
        Due.is("entry -1", x.entry(-1, 0), -2);
    }

    private static void lineOf() {
        LedgerTwice x = Due.smallBooks();
        Due.move(x, 2, 0, 5, 1);
        Due.move(x, 3, 0, 6, 1);
        Due.is("account", x.lineOf(1, 1, 0), 3);
        Due.is("amount", x.lineOf(1, 1, 1), -6);
        Due.is("first", x.lineOf(0, 0, 1), 5);
        Due.is("entry 2", x.lineOf(2, 0, 1), Due.LEAST);
        Due.is("entry -1", x.lineOf(-1, 0, 1), Due.LEAST);
        Due.is("line 2", x.lineOf(0, 2, 1), Due.LEAST);
        Due.is("line -1", x.lineOf(1, -1, 1), Due.LEAST);
        Due.is("what 2", x.lineOf(0, 0, 2), Due.LEAST);
        Due.is("what -1", x.lineOf(0, 0, -1), Due.LEAST);
    }

    private static void ledger() {
        LedgerTwice x = Due.smallBooks();
        x.account(500, 0, -1, true);
        Due.move(x, 2, 0, 5, 40);
        x.line(0, 7);
        x.line(3, -4);
        x.line(0, -3);
        x.post(2, 2);
        long[][] due = {{0, 5, 5}, {1, 7, 12}, {1, -3, 9}};
        for (int i = 0; i < due.length; i++) {
            for (int what = 0; what < 3; what++) {
                Due.is("ledger(0, " + i + ", " + what + ")", x.ledger(0, i, what), due[i][what]);
            }
        }
        Due.is("line 3", x.ledger(0, 3, 0), Due.LEAST);
        Due.is("line -1", x.ledger(0, -1, 0), Due.LEAST);
        Due.is("what 3", x.ledger(0, 0, 3), Due.LEAST);
        Due.is("what -1", x.ledger(0, 0, -1), Due.LEAST);
        Due.is("a group", x.ledger(4, 0, 0), Due.LEAST);
        Due.is("unknown", x.ledger(5, 0, 0), Due.LEAST);
        Due.is("account -1", x.ledger(-1, 0, 0), Due.LEAST);
        Due.is("no lines", x.ledger(1, 0, 0), Due.LEAST);
    }
}
