/** Promises 1 to 5 and 17, 23: a new object, account, shut, period, owner, of, periodOf. */
public final class AccountsTest {
    public static void main(String[] args) {
        newObject();
        accountEdges();
        accountOrderOfRefusals();
        accountDepth();
        accountsFull();
        shutAndOpen();
        periods();
        periodsFull();
        owner();
        ofAnAccount();
        periodOf();
        Due.end();
    }

    private static void newObject() {
        LedgerTwice x = new LedgerTwice();
        int[] due = {0, 0, 0, 0, 0, 0, 0, 0, LedgerTwice.NONE, 0, 1};
        for (int what = 0; what < due.length; what++) {
            Due.is("new: count(" + what + ")", x.count(what), due[what]);
        }
        Due.is("new: of", x.of(0, 0), -2);
        Due.is("new: entry", x.entry(0, 0), -2);
        Due.is("new: periodOf", x.periodOf(0, 0), -2);
        Due.is("new: byteAt", x.byteAt(0), -2);
        Due.is("new: shown", x.shown(0), -2);
        Due.is("new: drop", x.drop(), 0);
        Due.is("new: sync", x.sync(), 0);
        Due.is("new: recover", x.recover(), -6);
    }

    private static void accountEdges() {
        LedgerTwice x = new LedgerTwice();
        Due.is("code 0", x.account(0, 0, -1, false), -3);
        Due.is("code -1", x.account(-1, 0, -1, false), -3);
        Due.is("code 10000", x.account(10000, 0, -1, false), -3);
        Due.is("kind -1", x.account(1, -1, -1, false), -3);
        Due.is("kind 5", x.account(1, 5, -1, false), -3);
        Due.is("parent -2", x.account(1, 0, -2, false), -2);
        Due.is("parent to come", x.account(1, 0, 0, true), -2);
        Due.is("parent far", x.account(1, 0, Integer.MAX_VALUE, true), -2);
        Due.is("nothing was written", x.count(7), 0);
        Due.is("code 1", x.account(1, 0, -1, false), 0);
        Due.is("code 9999", x.account(9999, 4, -1, true), 1);
        Due.is("code again", x.account(9999, 0, -1, true), -5);
        Due.is("parent a leaf", x.account(2, 0, 0, false), -4);
        Due.is("parent of another kind", x.account(2, 3, 1, false), -4);
        Due.is("child", x.account(2, 4, 1, false), 2);
        Due.is("how many", x.count(0), 3);
        Due.is("records", x.count(7), 3);
    }

    private static void accountOrderOfRefusals() {
        LedgerTwice x = new LedgerTwice();
        x.account(5, 0, -1, false);
        Due.is("UNKNOWN ahead of OUTSIDE", x.account(0, 9, 7, false), -2);
        Due.is("OUTSIDE ahead of KIND", x.account(0, 0, 0, false), -3);
        Due.is("KIND ahead of TWICE", x.account(5, 0, 0, false), -4);
        fillAccounts(x);
        Due.is("TWICE ahead of FULL", x.account(5, 0, -1, false), -5);
    }

    private static void accountDepth() {
        LedgerTwice x = new LedgerTwice();
        x.account(1, 1, -1, true);
        for (int depth = 1; depth <= 5; depth++) {
            Due.is("depth " + depth, x.account(depth + 1, 1, depth - 1, true), depth);
            Due.is("depth told", x.of(depth, 5), depth);
        }
        Due.is("depth 6, a leaf", x.account(7, 1, 5, false), -4);
        Due.is("depth 6, a group", x.account(7, 1, 5, true), -4);
        Due.is("another of depth 5", x.account(7, 1, 4, false), 6);
    }

    private static void fillAccounts(LedgerTwice x) {
        for (int i = x.count(0); i < 60; i++) {
            Due.is("account " + i, x.account(1000 + i, i % 5, -1, false), i);
        }
    }

    private static void accountsFull() {
        LedgerTwice x = new LedgerTwice();
        fillAccounts(x);
        Due.is("account 61", x.account(1, 0, -1, false), -13);
        Due.is("60 accounts", x.count(0), 60);
        Due.is("60 records", x.count(7), 60);
        Due.is("code of the last", x.of(59, 0), 1059);
        Due.is("no 61st", x.of(60, 0), -2);
    }

    private static void shutAndOpen() {
        LedgerTwice x = new LedgerTwice();
        x.account(1, 0, -1, true);
        x.account(2, 0, 0, false);
        Due.is("shut unknown", x.shut(2, true), -2);
        Due.is("shut -1", x.shut(-1, true), -2);
        Due.is("shut a group", x.shut(0, true), -4);
        Due.is("group not open either", x.shut(0, false), -4);
        Due.is("open already", x.shut(1, false), -6);
        Due.is("shut", x.shut(1, true), 0);
        Due.is("told", x.of(1, 4), 1);
        Due.is("shut already", x.shut(1, true), -6);
        Due.is("open again", x.shut(1, false), 1);
        Due.is("told", x.of(1, 4), 0);
        Due.is("records", x.count(7), 4);
    }

    private static void periods() {
        LedgerTwice x = new LedgerTwice();
        Due.is("last day -1", x.period(-1), -3);
        Due.is("last day 10000", x.period(10000), -3);
        Due.is("a period of day 0 alone", x.period(0), 0);
        Due.is("day 0 again", x.period(0), -3);
        Due.is("one day", x.period(1), 1);
        Due.is("to the end", x.period(9999), 2);
        Due.is("behind the end", x.period(10000), -3);
        Due.is("inside", x.period(500), -3);
        Due.is("how many", x.count(1), 3);
        Due.is("first day", x.periodOf(2, 0), 2);
    }

    private static void periodsFull() {
        LedgerTwice x = new LedgerTwice();
        for (int p = 0; p < 24; p++) {
            Due.is("period " + p, x.period(10 * p), p);
        }
        Due.is("OUTSIDE ahead of FULL", x.period(230), -3);
        Due.is("period 25", x.period(231), -13);
        Due.is("24 periods", x.count(1), 24);
        Due.is("last one's first day", x.periodOf(23, 0), 221);
    }

    private static void owner() {
        LedgerTwice x = new LedgerTwice();
        x.account(1, 2, -1, true);
        x.account(2, 2, 0, false);
        x.account(3, 3, -1, false);
        x.account(4, 2, -1, false);
        Due.is("owner unknown", x.owner(4), -2);
        Due.is("owner NONE", x.owner(-1), -2);
        Due.is("owner a group", x.owner(0), -4);
        Due.is("owner of income", x.owner(2), -4);
        Due.is("none yet", x.count(8), -1);
        Due.is("first", x.owner(1), -1);
        Due.is("told", x.count(8), 1);
        Due.is("another", x.owner(3), 1);
        Due.is("the same", x.owner(3), 3);
        Due.is("records", x.count(7), 7);
    }

    private static void ofAnAccount() {
        LedgerTwice x = Due.smallBooks();
        x.account(500, 0, -1, true);
        x.account(510, 0, 4, false);
        x.shut(5, true);
        Due.move(x, 2, 0, 10, 3);
        x.line(0, 5);
        x.line(0, -5);
        x.post(3, 3);
        int[] leaf = {510, 0, 4, 0, 1, 1, 0};
        int[] group = {500, 0, -1, 1, 0, 0, 0};
        int[] used = {100, 0, -1, 0, 0, 0, 3};
        for (int what = 0; what <= 6; what++) {
            Due.is("of(5, " + what + ")", x.of(5, what), leaf[what]);
            Due.is("of(4, " + what + ")", x.of(4, what), group[what]);
            Due.is("of(0, " + what + ")", x.of(0, what), used[what]);
        }
        Due.is("of what 7", x.of(0, 7), -3);
        Due.is("of what -1", x.of(0, -1), -3);
        Due.is("UNKNOWN ahead of OUTSIDE", x.of(6, 7), -2);
        Due.is("of -1", x.of(-1, 0), -2);
    }

    private static void periodOf() {
        LedgerTwice x = Due.smallBooks();
        Due.move(x, 2, 0, 10, 3);
        x.close();
        int[] closed = {0, 30, 1, 1};
        int[] open = {31, 60, 0, -1};
        for (int what = 0; what <= 3; what++) {
            Due.is("periodOf(0, " + what + ")", x.periodOf(0, what), closed[what]);
            Due.is("periodOf(1, " + what + ")", x.periodOf(1, what), open[what]);
        }
        Due.is("what 4", x.periodOf(0, 4), -3);
        Due.is("what -1", x.periodOf(0, -1), -3);
        Due.is("UNKNOWN ahead of OUTSIDE", x.periodOf(2, 4), -2);
        Due.is("period -1", x.periodOf(-1, 0), -2);
        x.close();
        Due.is("closed without lines", x.periodOf(1, 3), -1);
        Due.is("closed without lines", x.periodOf(1, 2), 1);
        x.reopen();
        x.reopen();
        Due.is("opened again", x.periodOf(0, 3), -1);
        Due.is("opened again", x.periodOf(0, 2), 0);
        x.close();
        Due.is("closed anew", x.periodOf(0, 3), 3);
    }
}
