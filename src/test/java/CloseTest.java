/** Promises 10 and 11: close, reopen. */
public final class CloseTest {
    private static final long MOST = 1000000000000000L;

    public static void main(String[] args) {
        notNow();
        closesInOrder();
        byCodes();
        withoutOwnersLine();
        withoutLines();
        onlyThePeriodsDays();
        reopenTurnsTheLatest();
        shutLeaves();
        over();
        reopenOver();
        greatAmounts();
        manyLines();
        Due.end();
    }

    private static void notNow() {
        LedgerTwice x = new LedgerTwice();
        Due.is("nothing at all", x.close(), -6);
        Due.is("nothing to open", x.reopen(), -6);
        x.account(1, 2, -1, false);
        x.owner(0);
        Due.is("no period", x.close(), -6);
        LedgerTwice y = new LedgerTwice();
        y.period(30);
        Due.is("no owner", y.close(), -6);
        y.account(1, 2, -1, false);
        Due.is("no owner yet", y.close(), -6);
        y.owner(0);
        Due.is("now", y.close(), 0);
        Due.is("all are closed", y.close(), -6);
    }

    private static void closesInOrder() {
        LedgerTwice x = Due.smallBooks();
        Due.is("first", x.close(), 0);
        Due.is("second", x.close(), 1);
        Due.is("none left", x.close(), -6);
        Due.is("closed", x.count(2), 2);
        Due.is("last one", x.reopen(), 1);
        Due.is("then the first", x.reopen(), 0);
        Due.is("none left", x.reopen(), -6);
        Due.is("records", x.count(7), 11);
        Due.is("a period behind a closed one", x.close() + x.period(90), 2);
        Due.is("next is the second", x.close(), 1);
    }

    private static void byCodes() {
        LedgerTwice x = new LedgerTwice();
        x.account(900, 4, -1, false);
        x.account(50, 2, -1, false);
        x.account(300, 3, -1, true);
        x.account(310, 3, 2, false);
        x.account(100, 4, -1, false);
        x.account(305, 3, 2, false);
        x.account(700, 0, -1, false);
        x.period(30);
        x.owner(1);
        Due.move(x, 6, 0, 11, 1);
        Due.move(x, 3, 6, 100, 1);
        Due.move(x, 6, 4, 7, 1);
        Due.move(x, 5, 6, 20, 30);
        Due.is("close", x.close(), 0);
        Due.is("by codes, the owner behind", Due.linesOf(x, 4), "4:-7 5:20 3:100 0:-11 1:-102");
        Due.is("balance of the group", x.balance(2), 0);
        Due.is("balance of the owner", x.balance(1), -102);
    }

    private static void withoutOwnersLine() {
        LedgerTwice x = Due.smallBooks();
        Due.move(x, 2, 3, 40, 3);
        Due.is("close", x.close(), 0);
        Due.is("they come to nothing", Due.linesOf(x, 1), "2:40 3:-40");
        Due.is("the owner has none", x.of(1, 6), 0);
        LedgerTwice y = Due.smallBooks();
        Due.move(y, 0, 1, 40, 3);
        Due.is("only other kinds", y.close(), 0);
        Due.is("no entry", y.count(3), 1);
        Due.move(y, 0, 2, 5, 40);
        Due.is("one leaf and the owner", y.close(), 1);
        Due.is("lines", Due.linesOf(y, 2), "2:-5 1:5");
    }

    private static void withoutLines() {
        LedgerTwice x = Due.smallBooks();
        Due.move(x, 2, 0, 9, 3);
        Due.move(x, 0, 2, 9, 30);
        Due.is("close", x.close(), 0);
        Due.is("no entry", x.count(3), 2);
        Due.is("no closing", x.periodOf(0, 3), -1);
        Due.is("a record all the same", x.count(7), 10);
        Due.is("reopen", x.reopen(), 0);
        Due.is("no opening", x.count(3), 2);
        // One that was written and opened again must not be opened once more.
        Due.move(x, 2, 0, 9, 3);
        x.close();
        x.reopen();
        Due.move(x, 0, 2, 9, 3);
        x.close();
        Due.is("entries", x.count(3), 6);
        Due.is("latest is none", x.periodOf(0, 3), -1);
        Due.is("reopen", x.reopen(), 0);
        Due.is("no opening", x.count(3), 6);
    }

    private static void onlyThePeriodsDays() {
        LedgerTwice x = Due.smallBooks();
        Due.move(x, 2, 0, 1, 0);
        Due.move(x, 2, 0, 10, 30);
        Due.move(x, 2, 0, 100, 31);
        Due.move(x, 2, 0, 1000, 60);
        x.close();
        Due.is("first period", Due.linesOf(x, 4), "2:11 1:-11");
        Due.is("day", x.entry(4, 0), 30);
        x.close();
        Due.is("second period", Due.linesOf(x, 5), "2:1100 1:-1100");
        Due.is("day", x.entry(5, 0), 60);
        Due.is("period", x.entry(5, 5), 1);
        Due.is("balance", x.balance(2), 0);
    }

    private static void reopenTurnsTheLatest() {
        LedgerTwice x = Due.smallBooks();
        x.account(210, 2, -1, false);
        Due.move(x, 2, 0, 5, 3);
        x.close();
        x.owner(4);
        Due.is("reopen", x.reopen(), 0);
        Due.is("of the owner that was", Due.linesOf(x, 2), "2:-5 1:5");
        Due.is("balance", x.balance(1), 0);
        Due.move(x, 2, 0, 6, 3);
        x.close();
        Due.is("closing again", Due.linesOf(x, 4), "2:11 4:-11");
        Due.is("latest", x.periodOf(0, 3), 4);
        x.reopen();
        Due.is("opening of the latest", Due.linesOf(x, 5), "2:-11 4:11");
        int[] told = {30, 0, 3, 2, -1, 0};
        for (int what = 0; what < told.length; what++) {
            Due.is("entry(5, " + what + ")", x.entry(5, what), told[what]);
        }
    }

    private static void shutLeaves() {
        LedgerTwice x = Due.smallBooks();
        Due.move(x, 2, 0, 5, 3);
        x.shut(1, true);
        x.shut(2, true);
        Due.is("close", x.close(), 0);
        Due.is("reopen", x.reopen(), 0);
        Due.is("entries", x.count(3), 3);
    }

    /** Ten moves of the most from income bring the owner, when closed, to the most of a balance. */
    private static void earnMost(LedgerTwice x, int income, int day) {
        for (int i = 0; i < 10; i++) {
            Due.move(x, income, 0, MOST, day);
        }
        for (int i = 0; i < 10; i++) {
            Due.move(x, 0, 4, MOST, day);
        }
    }

    private static void over() {
        LedgerTwice x = Due.smallBooks();
        x.account(150, 0, -1, false);
        earnMost(x, 2, 3);
        Due.is("the most", x.close(), 0);
        Due.is("owner", x.balance(1), -10 * MOST);
        Due.move(x, 2, 0, 1, 40);
        int records = x.count(7);
        Due.is("over", x.close(), -12);
        Due.is("nothing was closed", x.count(2), 1);
        Due.is("nothing was written", x.count(7), records);
        Due.is("balance", x.balance(2), -1);
        Due.move(x, 0, 2, 2, 40);
        Due.is("the other way", x.close(), 1);
        Due.is("owner", x.balance(1), -10 * MOST + 1);
    }

    private static void reopenOver() {
        LedgerTwice x = Due.smallBooks();
        Due.move(x, 2, 0, 7, 3);
        x.close();
        Due.is("owner", x.balance(1), -7);
        for (int i = 0; i < 10; i++) {
            Due.move(x, 3, 1, MOST, 40);
        }
        Due.is("owner", x.balance(1), 10 * MOST - 7);
        Due.move(x, 3, 0, 1, 40);
        Due.is("over for the costs, not for the owner", Due.move(x, 3, 1, 1, 40), -12);
        Due.move(x, 0, 1, 1, 40);
        Due.is("owner", x.balance(1), 10 * MOST - 6);
        int records = x.count(7);
        Due.is("over", x.reopen(), -12);
        Due.is("nothing was written", x.count(7), records);
        Due.is("still closed", x.count(2), 1);
        Due.is("closing", x.periodOf(0, 3), 1);
    }

    private static void greatAmounts() {
        LedgerTwice x = Due.smallBooks();
        for (int i = 0; i < 3; i++) {
            Due.move(x, 2, 0, MOST, 3);
        }
        x.close();
        Due.is("beyond those of a line", Due.linesOf(x, 3), "2:3000000000000000 1:-3000000000000000");
        x.crash(6000, 0);
        x.recover();
        Due.is("made anew", Due.linesOf(x, 3), "2:3000000000000000 1:-3000000000000000");
    }

    /** A closing may have far more lines than a draft. */
    private static void manyLines() {
        LedgerTwice x = Due.booksToCloseWidely();
        Due.is("close", x.close(), 0);
        int closing = x.periodOf(0, 3);
        Due.is("reopen", x.reopen(), 0);
        Due.is("crash", x.crash(6000, 0), x.count(5));
        Due.is("recover", x.recover() > 0 ? 1 : 0, 1);
        Due.is("lines", x.entry(closing + 1, 3), 60);
        Due.is("the owner's", x.lineOf(closing + 1, 59, 1), -1770);
        // The books made anew take the room of those before, however often.
        for (int i = 0; i < 150; i++) {
            x.crash(0, 0);
            x.recover();
        }
        Due.is("lines of all times", x.lineOf(closing + 1, 59, 1), -1770);
    }
}
