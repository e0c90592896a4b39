/** The edges of promises 1 to 5, a test for each: a new object, account, shut, period, owner. */
public final class EdgesBooksTest {
    public static void main(String[] args) {
        newObject();
        newObjectApart();
        account();
        accountRefused();
        accountFull();
        shut();
        shutRefused();
        period();
        periodRefused();
        owner();
        ownerRefused();
        Due.end();
    }

    private static void newObject() {
        Due.says("Empty books, an empty DRAFT, JOURNAL and SHEET; UP, nothing DURABLE.");
        LedgerTwice x = new LedgerTwice();
        int[] due = {0, 0, 0, 0, 0, 0, 0, 0, -1, 0, 1};
        for (int what = 0; what < due.length; what++) {
            Due.is("count(" + what + ")", x.count(what), due[what]);
        }
        Due.is("no account", x.of(0, 0), -2);
        Due.is("no account", x.balance(0), Due.LEAST);
        Due.is("no account", x.sum(0, 0, 0), Due.LEAST);
        Due.is("no account", x.ledger(0, 0, 0), Due.LEAST);
        Due.is("no entry", x.entry(0, 0), -2);
        Due.is("no entry", x.lineOf(0, 0, 0), Due.LEAST);
        Due.is("no period", x.periodOf(0, 0), -2);
        Due.is("no byte", x.byteAt(0), -2);
        Due.is("no sheet", x.shown(0), -2);
        Due.is("no line", x.drop(), 0);
        Due.is("no line", x.post(0, 0), -7);
        Due.is("nothing to make durable", x.sync(), 0);
        Due.is("up", x.recover(), -6);
        Due.is("nothing to keep", x.crash(1, 1), 0);
        Due.is("nothing to do anew", x.recover(), 0);
        Due.is("as new", Due.told(x), Due.told(new LedgerTwice()));
    }

    private static void newObjectApart() {
        Due.says("Empty books");
        LedgerTwice x = Due.smallBooks();
        x.line(0, 1);
        x.sheet(2);
        LedgerTwice y = new LedgerTwice();
        Due.is("nothing of another object", y.count(0) + y.count(4) + y.count(5) + y.count(9), 0);
        y.account(1, 1, -1, false);
        Due.is("nor the other way", x.of(0, 0), 100);
    }

    private static void account() {
        Due.says("An ACCOUNT: its number.");
        LedgerTwice x = new LedgerTwice();
        Due.is("first", x.account(9999, 4, -1, true), 0);
        Due.is("second", x.account(1, 4, 0, true), 1);
        Due.is("third", x.account(2, 4, 1, false), 2);
        int[][] due = {{9999, 4, -1, 1, 0, 0, 0}, {1, 4, 0, 1, 0, 1, 0}, {2, 4, 1, 0, 0, 2, 0}};
        for (int a = 0; a < due.length; a++) {
            for (int what = 0; what < due[a].length; what++) {
                Due.is("of(" + a + ", " + what + ")", x.of(a, what), due[a][what]);
            }
        }
    }

    private static void accountRefused() {
        Due.says("UNKNOWN: PARENT; OUTSIDE: CODE, KIND; KIND: PARENT is no GROUP, is of another KIND, has DEPTH 5; "
            + "TWICE: CODE;");
        LedgerTwice x = new LedgerTwice();
        for (int depth = 0; depth <= 5; depth++) {
            x.account(1 + depth, 3, depth - 1, true);
        }
        x.account(7, 3, 0, false);
        Due.refused(x, "parent to come", () -> x.account(8, 3, 7, false), -2);
        Due.refused(x, "parent -2", () -> x.account(8, 3, -2, false), -2);
        Due.refused(x, "parent least", () -> x.account(8, 3, Due.LEAST_INT, false), -2);
        Due.refused(x, "parent most", () -> x.account(8, 3, Due.MOST_INT, false), -2);
        Due.refused(x, "code 0", () -> x.account(0, 3, 0, false), -3);
        Due.refused(x, "code 10000", () -> x.account(10000, 3, 0, false), -3);
        Due.refused(x, "kind -1", () -> x.account(8, -1, 0, false), -3);
        Due.refused(x, "kind 5", () -> x.account(8, 5, 0, false), -3);
        Due.refused(x, "a leaf", () -> x.account(8, 3, 6, false), -4);
        Due.refused(x, "kind 2", () -> x.account(8, 2, 0, false), -4);
        Due.refused(x, "kind 4", () -> x.account(8, 4, 0, false), -4);
        Due.refused(x, "depth 5", () -> x.account(8, 3, 5, false), -4);
        Due.refused(x, "code of a group", () -> x.account(1, 3, 0, false), -5);
        Due.refused(x, "code of a leaf", () -> x.account(7, 3, 0, false), -5);
        Due.is("none of these", x.account(8, 3, 4, false), 7);
    }

    private static void accountFull() {
        Due.says("FULL: also THE JOURNAL.");
        LedgerTwice x = new LedgerTwice();
        for (int i = 0; i < 60; i++) {
            x.account(1 + i, 0, -1, false);
        }
        Due.refused(x, "60 accounts", () -> x.account(61, 0, -1, false), -13);
        LedgerTwice y = Due.booksWithRoom(8);
        Due.refused(y, "the journal", () -> y.account(64, 0, -1, false), -13);
        Due.is("a shorter one", y.account(63, 0, -1, false), 4);
    }

    private static void shut() {
        Due.says("A LEAF is SHUT, or not any more: whether it was (1, 0).");
        LedgerTwice x = Due.smallBooks();
        for (int i = 0; i < 2; i++) {
            Due.is("shut", x.shut(3, true), 0);
            Due.is("told", x.of(3, 4), 1);
            Due.is("not any more", x.shut(3, false), 1);
            Due.is("told", x.of(3, 4), 0);
        }
        x.shut(0, true);
        x.crash(6000, 0);
        x.recover();
        Due.is("made anew", x.of(0, 4) * 2 + x.of(3, 4), 2);
    }

    private static void shutRefused() {
        Due.says("UNKNOWN; KIND: a GROUP; NOT: it is so already; FULL: THE JOURNAL.");
        LedgerTwice x = Due.smallBooks();
        x.account(500, 0, -1, true);
        for (int account : new int[] {-1, 5, 60, Due.LEAST_INT, Due.MOST_INT}) {
            Due.refused(x, "shut " + account, () -> x.shut(account, true), -2);
        }
        Due.refused(x, "a group", () -> x.shut(4, true), -4);
        Due.refused(x, "a group, not to be", () -> x.shut(4, false), -4);
        Due.refused(x, "it is not", () -> x.shut(3, false), -6);
        x.shut(3, true);
        Due.refused(x, "it is", () -> x.shut(3, true), -6);
        LedgerTwice y = Due.booksWithRoom(5);
        Due.refused(y, "the journal", () -> y.shut(2, true), -13);
        Due.is("it was not shut", y.of(2, 4), 0);
    }

    private static void period() {
        Due.says("A PERIOD: its number.");
        LedgerTwice x = new LedgerTwice();
        Due.is("first", x.period(0), 0);
        Due.is("second", x.period(9998), 1);
        Due.is("third", x.period(9999), 2);
        Due.is("days", x.periodOf(1, 0) * 10000 + x.periodOf(1, 1), 19998);
    }

    private static void periodRefused() {
        Due.says("OUTSIDE: the LAST DAY is not behind that of the one before it (0 .. 9999); FULL: also THE JOURNAL.");
        LedgerTwice x = new LedgerTwice();
        for (int day : new int[] {-1, 10000, Due.LEAST_INT, Due.MOST_INT}) {
            Due.refused(x, "last day " + day, () -> x.period(day), -3);
        }
        x.period(10);
        for (int day : new int[] {-1, 0, 9, 10, 10000, Due.LEAST_INT, Due.MOST_INT}) {
            Due.refused(x, "last day " + day, () -> x.period(day), -3);
        }
        for (int p = 1; p < 24; p++) {
            Due.is("the next day", x.period(10 + p), p);
        }
        Due.refused(x, "24 periods", () -> x.period(34), -13);
        LedgerTwice y = Due.booksWithRoom(5);
        Due.refused(y, "the journal", () -> y.period(64), -13);
        Due.is("a shorter one", y.period(63), 2);
    }

    private static void owner() {
        Due.says("THE OWNER's LEAF (there is none at first): that which it was; NONE.");
        LedgerTwice x = new LedgerTwice();
        x.account(1, 2, -1, false);
        x.account(2, 2, -1, false);
        Due.is("none at first", x.count(8), -1);
        Due.is("the first", x.owner(0), -1);
        Due.is("the same", x.owner(0), 0);
        Due.is("another", x.owner(1), 0);
        Due.is("back", x.owner(0), 1);
        Due.is("told", x.count(8), 0);
        x.shut(1, true);
        Due.is("one that is shut", x.owner(1), 0);
        x.crash(6000, 0);
        x.recover();
        Due.is("made anew", x.count(8), 1);
        x.crash(0, 0);
        x.recover();
        Due.is("all was durable", x.count(8), 1);
        LedgerTwice y = Due.smallBooks();
        y.crash(0, 0);
        y.recover();
        Due.is("none again", y.count(8), -1);
    }

    private static void ownerRefused() {
        Due.says("UNKNOWN; KIND: no LEAF of OWN; FULL: THE JOURNAL.");
        LedgerTwice x = Due.smallBooks();
        x.account(500, 2, -1, true);
        for (int account : new int[] {-1, 5, 60, Due.LEAST_INT, Due.MOST_INT}) {
            Due.refused(x, "owner " + account, () -> x.owner(account), -2);
        }
        for (int account : new int[] {0, 2, 3, 4}) {
            Due.refused(x, "owner " + account, () -> x.owner(account), -4);
        }
        LedgerTwice y = Due.booksWithRoom(15);
        y.account(63, 2, -1, false);
        y.shut(4, true);
        Due.refused(y, "the journal", () -> y.owner(4), -13);
        Due.is("that which it was", y.count(8), 1);
    }
}
