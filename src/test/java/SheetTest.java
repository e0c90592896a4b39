/** Promises 18, 19, 24 and 25: balance, sum, sheet, shown. */
public final class SheetTest {
    private static final long MOST = 1000000000000000L;

    public static void main(String[] args) {
        balances();
        deepBalances();
        sums();
        ways();
        money();
        greatestMoney();
        refused();
        widest();
        Due.end();
    }

    /** Two trees, of which codes, kinds and numbers come in other orders. */
    private static LedgerTwice trees() {
        LedgerTwice x = new LedgerTwice();
        x.account(900, 3, -1, true);
        x.account(20, 3, 0, false);
        x.account(800, 0, -1, true);
        x.account(7, 3, 0, true);
        x.account(30, 3, 3, false);
        x.account(5, 3, 3, false);
        x.account(810, 0, 2, false);
        x.account(9999, 0, -1, false);
        x.account(1, 4, -1, false);
        x.account(2, 2, -1, false);
        x.account(3, 1, -1, false);
        x.period(30);
        x.period(60);
        x.owner(9);
        return x;
    }

    private static void balances() {
        LedgerTwice x = trees();
        Due.move(x, 1, 6, 100, 1);
        Due.move(x, 4, 6, 1000, 31);
        Due.move(x, 5, 7, 10000, 60);
        Due.is("leaf", x.balance(1), -100);
        Due.is("group in a group", x.balance(3), -11000);
        Due.is("group", x.balance(0), -11100);
        Due.is("other group", x.balance(2), 1100);
        Due.is("unused", x.balance(8), 0);
        Due.is("unknown", x.balance(11), Due.LEAST);
        Due.is("account -1", x.balance(-1), Due.LEAST);
        Due.is("an empty group", x.account(4, 0, -1, true), 11);
        Due.is("an empty group", x.balance(11), 0);
    }

    private static void deepBalances() {
        LedgerTwice x = new LedgerTwice();
        for (int depth = 0; depth < 5; depth++) {
            x.account(10 + depth, 0, depth - 1, true);
        }
        x.account(1, 0, 4, false);
        x.account(2, 3, -1, false);
        x.period(30);
        Due.move(x, 6, 5, 42, 3);
        for (int depth = 0; depth <= 5; depth++) {
            Due.is("balance in depth " + depth, x.balance(depth), 42);
            Due.is("sum in depth " + depth, x.sum(depth, 0, 30), 42);
        }
        x.sheet(1);
        Due.is("a row more to the right each", Due.sheetOf(x), "0010 0.42\n  0011 0.42\n    0012 0.42\n"
            + "      0013 0.42\n        0014 0.42\n          0001 0.42\n0002 -0.42\n");
    }

    private static void sums() {
        LedgerTwice x = trees();
        Due.move(x, 1, 6, 1, 0);
        Due.move(x, 4, 6, 10, 29);
        Due.move(x, 5, 6, 100, 30);
        Due.move(x, 1, 6, 1000, 31);
        x.back(0, 60);
        Due.is("all days", x.sum(0, Integer.MIN_VALUE, Integer.MAX_VALUE), -1110);
        Due.is("one day", x.sum(6, 29, 29), 10);
        Due.is("some days", x.sum(6, 29, 30), 110);
        Due.is("a group", x.sum(0, 1, 59), -1110);
        Due.is("a group in a group", x.sum(3, 30, 60), -100);
        Due.is("the last day", x.sum(6, 60, 60), -1);
        Due.is("from behind to", x.sum(6, 30, 29), 0);
        Due.is("unknown", x.sum(11, 0, 60), Due.LEAST);
        Due.is("account -1", x.sum(-1, 0, 60), Due.LEAST);
        x.close();
        Due.is("a closing has its day", x.sum(1, 30, 30), 1);
        Due.is("days of the period", x.sum(1, 0, 30), 0);
    }

    private static void ways() {
        LedgerTwice x = trees();
        Due.move(x, 1, 6, 5, 1);
        Due.move(x, 4, 7, 123456, 1);
        Due.is("sheet(0)", x.sheet(0), Due.sheetOf(x).length());
        Due.is("sheet 0", Due.sheetOf(x),
            "  0020 -0.05\n    0030 -1,234.56\n  0810 0.05\n9999 1,234.56\n");
        Due.is("sheet(1)", x.sheet(1), Due.sheetOf(x).length());
        Due.is("sheet 1", Due.sheetOf(x),
            "0800 0.05\n  0810 0.05\n9999 1,234.56\n0003 0.00\n0002 0.00\n0900 -1,234.61\n"
            + "  0007 -1,234.56\n    0005 0.00\n    0030 -1,234.56\n  0020 -0.05\n0001 0.00\n");
        Due.is("sheet(2)", x.sheet(2), Due.sheetOf(x).length());
        Due.is("sheet 2", Due.sheetOf(x), "A 1,234.61\nD 0.00\nO 0.00\nI -1,234.61\nC 0.00\n= 0.00\n");
        Due.is("told", x.count(9), Due.sheetOf(x).length());
        LedgerTwice y = new LedgerTwice();
        Due.is("nothing", y.sheet(0), 0);
        Due.is("nothing", y.sheet(1), 0);
        Due.is("nothing but kinds", y.sheet(2), 42);
    }

    private static void money() {
        long[] amounts = {1, 9, 10, 99, 100, 999, 1000, 99999, 100000, 99999999, 100000000, 123456789012345L, MOST};
        String[] due = {"0.01", "0.09", "0.10", "0.99", "1.00", "9.99", "10.00", "999.99", "1,000.00", "999,999.99",
            "1,000,000.00", "1,234,567,890,123.45", "10,000,000,000,000.00"};
        for (int i = 0; i < amounts.length; i++) {
            LedgerTwice x = Due.smallBooks();
            Due.move(x, 2, 0, amounts[i], 1);
            x.sheet(0);
            Due.is("money of " + amounts[i], Due.sheetOf(x), "0100 " + due[i] + "\n0300 -" + due[i] + "\n");
        }
    }

    private static void greatestMoney() {
        LedgerTwice x = Due.smallBooks();
        x.account(500, 0, -1, true);
        x.account(510, 0, 4, false);
        x.account(520, 0, 4, false);
        x.account(600, 3, -1, false);
        for (int i = 0; i < 10; i++) {
            Due.move(x, 2, 5, MOST, 1);
            Due.move(x, 7, 6, MOST, 1);
        }
        x.sheet(2);
        Due.is("beyond a balance", Due.sheetOf(x), "A 200,000,000,000,000.00\nD 0.00\nO 0.00\n"
            + "I -200,000,000,000,000.00\nC 0.00\n= 0.00\n");
        x.sheet(1);
        Due.isTrue("of a group", Due.sheetOf(x).startsWith("0100 0.00\n0500 200,000,000,000,000.00\n  0510 "));
    }

    private static void refused() {
        LedgerTwice x = trees();
        Due.is("none yet", x.shown(0), -2);
        int many = x.sheet(2);
        Due.is("way -1", x.sheet(-1), -3);
        Due.is("way 3", x.sheet(3), -3);
        Due.is("the sheet stays", x.count(9), many);
        Due.is("last byte", x.shown(many - 1), 10);
        Due.is("behind it", x.shown(many), -2);
        Due.is("byte -1", x.shown(-1), -2);
        x.sheet(0);
        Due.is("a shorter one", x.shown(0), -2);
    }

    /** No books are wide enough for FULL; the widest row of all accounts stands. */
    private static void widest() {
        LedgerTwice x = new LedgerTwice();
        x.account(1, 0, -1, true);
        for (int i = 1; i < 60; i++) {
            x.account(i + 1, 0, Math.min(i - 1, 4), i < 5);
        }
        Due.is("60 rows", x.sheet(1), 10 + 12 + 14 + 16 + 18 + 55 * 20);
    }
}
