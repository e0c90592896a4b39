/** The edges that stand under "5 THE SHEET". */
public final class EdgesSheetTest {
    private static final long MOST = Due.MOST;

    public static void main(String[] args) throws Exception {
        fourThousandBytes();
        widestRows();
        rows();
        depths();
        signOfMoney();
        pointOfMoney();
        commasOfMoney();
        leavesByCodes();
        trees();
        kinds();
        emptyBooks();
        Due.end();
    }

    /** Books of which row 0 is as wide as told: through the calls alone no sheet comes near to 4000 bytes. */
    private static LedgerTwice wide(int depth) throws Exception {
        LedgerTwice x = Due.smallBooks();
        Object accounts = Inside.get(Inside.get(x, "books"), "accounts");
        ((int[]) Inside.get(Inside.get(accounts, "depths"), "cells"))[0] = depth;
        return x;
    }

    private static void fourThousandBytes() throws Exception {
        Due.says("5 THE SHEET is a row of bytes, 4000 at most.");
        // Four rows of 10 bytes, and two for each depth; a minus makes it one more.
        LedgerTwice x = wide(1980);
        Due.is("the most", x.sheet(1), 4000);
        Due.is("told", x.count(9), 4000);
        Due.is("all its bytes", Due.sheetOf(x).length(), 4000);
        Due.is("the last one", x.shown(3999), 10);
        Due.is("no byte behind it", x.shown(4000), -2);
        Due.move(x, 0, 2, 1, 3);
        Due.is("one more", x.sheet(1), -13);
        Due.is("it is empty then", x.count(9), 0);
        Due.is("no byte of it", x.shown(0), -2);
        Due.is("another one may be written", x.sheet(2), 6 * 7 + 1);
        LedgerTwice y = wide(1979);
        Due.move(y, 0, 2, 1, 3);
        Due.is("one less", y.sheet(1), 3999);
        Due.is("far more", wide(100000).sheet(1), -13);
    }

    private static void widestRows() {
        Due.says("4000 at most.");
        LedgerTwice x = new LedgerTwice();
        for (int depth = 0; depth < 5; depth++) {
            x.account(9000 + depth, 0, depth - 1, true);
        }
        for (int i = 5; i < 60; i++) {
            x.account(1 + i, 0, 4, false);
        }
        x.period(30);
        for (int i = 5; i < 57; i += 4) {
            for (int k = 0; k < 4; k++) {
                x.line(i + k, k % 2 == 0 ? MOST : -MOST);
            }
            x.post(3, 3);
        }
        int groups = 5 * "9000 0.00\n".length() + 2 * (1 + 2 + 3 + 4);
        int left = "          0006 10,000,000,000,000.00\n".length();
        int empty = 3 * "          0058 0.00\n".length();
        Due.is("60 rows", x.sheet(1), groups + 26 * left + 26 * (left + 1) + empty);
        Due.is("its leaves", x.sheet(0), 26 * left + 26 * (left + 1));
    }

    private static String one(int code, int depth, long balance, int way) {
        LedgerTwice x = new LedgerTwice();
        for (int i = 0; i < depth; i++) {
            x.account(9001 + i, 0, i - 1, true);
        }
        x.account(code, 0, depth - 1, false);
        x.account(9999, 1, -1, false);
        x.period(30);
        if (balance != 0) {
            Due.move(x, depth + 1, depth, balance, 3);
        }
        x.sheet(way);
        String text = Due.sheetOf(x);
        int at = text.indexOf(String.format("%04d ", code));
        int start = text.lastIndexOf('\n', at) + 1;
        return text.substring(start, text.indexOf('\n', at) + 1);
    }

    private static void rows() {
        Due.says("A ROW of an ACCOUNT: two blanks for each DEPTH, its CODE in four figures, a blank, a MONEY, byte 10.");
        int[] codes = {1, 9, 10, 99, 100, 999, 1000, 9998};
        String[] due = {"0001", "0009", "0010", "0099", "0100", "0999", "1000", "9998"};
        for (int i = 0; i < codes.length; i++) {
            Due.is("row of code " + codes[i], one(codes[i], 0, 1, 1), due[i] + " 0.01\n");
        }
    }

    private static void depths() {
        Due.says("two blanks for each DEPTH");
        for (int depth = 0; depth <= 5; depth++) {
            String due = "  ".repeat(depth) + "0007 0.01\n";
            Due.is("depth " + depth, one(7, depth, 1, 1), due);
            Due.is("depth " + depth + ", leaves alone", one(7, depth, 1, 0), due);
        }
    }

    private static void money(long v, String due) {
        Due.is("money of " + v, one(7, 0, v, 1), "0007 " + due + "\n");
        if (v > 0) {
            Due.is("money of " + -v, one(7, 0, -v, 1), "0007 -" + due + "\n");
        }
    }

    private static void signOfMoney() {
        Due.says("MONEY of v: - if it is below 0;");
        money(0, "0.00");
        money(1, "0.01");
        money(MOST, "10,000,000,000,000.00");
    }

    private static void pointOfMoney() {
        Due.says("its size: the last two figures behind a point (three figures at least: 0.05)");
        money(5, "0.05");
        money(9, "0.09");
        money(10, "0.10");
        money(99, "0.99");
        money(100, "1.00");
        money(105, "1.05");
        money(999, "9.99");
        money(1000, "10.00");
    }

    private static void commasOfMoney() {
        Due.says("the others in threes from the right by commas.");
        money(99999, "999.99");
        money(100000, "1,000.00");
        money(999999, "9,999.99");
        money(1000000, "10,000.00");
        money(10000000, "100,000.00");
        money(99999999, "999,999.99");
        money(100000000, "1,000,000.00");
        money(100000000000L, "1,000,000,000.00");
        money(99999999999999L, "999,999,999,999.99");
        money(100000000000000L, "1,000,000,000,000.00");
        money(MOST - 1, "9,999,999,999,999.99");
        LedgerTwice x = new LedgerTwice();
        x.account(1, 0, -1, true);
        for (int i = 1; i <= 20; i++) {
            x.account(1 + i, i <= 10 ? 0 : 1, i <= 10 ? 0 : -1, false);
        }
        x.period(30);
        for (int i = 1; i <= 10; i++) {
            for (int k = 0; k < 10; k++) {
                Due.move(x, 10 + i, i, MOST, 3);
            }
        }
        x.sheet(1);
        Due.isTrue("of a group, beyond that of a leaf", Due.sheetOf(x).startsWith("0001 1,000,000,000,000,000.00\n"
            + "  0002 100,000,000,000,000.00\n"));
        x.sheet(2);
        Due.isTrue("of a kind, below 0", Due.sheetOf(x).contains("\nD -1,000,000,000,000,000.00\n"));
    }

    private static void leavesByCodes() {
        Due.says("sheet(): by way 0 of each LEAF whose BALANCE is not 0, by CODES;");
        LedgerTwice x = new LedgerTwice();
        x.account(9999, 0, -1, true);
        x.account(20, 4, -1, false);
        x.account(1, 1, -1, false);
        x.account(19, 0, 0, false);
        x.account(2, 3, -1, false);
        x.account(9998, 2, -1, false);
        x.period(30);
        Due.is("no balance", x.sheet(0), 0);
        Due.move(x, 1, 3, 5, 3);
        Due.move(x, 2, 4, 7, 3);
        Due.move(x, 4, 2, 7, 3);
        Due.move(x, 5, 2, 1, 3);
        x.sheet(0);
        Due.is("of all kinds, no group", Due.sheetOf(x), "0001 0.01\n  0019 0.05\n0020 -0.05\n9998 -0.01\n");
    }

    private static void trees() {
        Due.says("1 of each ACCOUNT without a PARENT, by KINDS, of these by CODES, and under it its children by CODES, "
            + "and so on;");
        LedgerTwice x = new LedgerTwice();
        x.account(50, 1, -1, true);
        x.account(9, 1, 0, true);
        x.account(8, 1, 0, false);
        x.account(7, 1, 1, false);
        x.account(6, 1, 1, true);
        x.account(40, 1, -1, false);
        x.account(1, 4, -1, false);
        x.account(9999, 0, -1, true);
        x.account(5, 3, -1, false);
        x.account(4, 2, -1, true);
        Due.is("all of them", x.sheet(1), 10 * 10 + 2 * (1 + 1 + 2 + 2));
        Due.is("by kinds, codes, children", Due.sheetOf(x), "9999 0.00\n0040 0.00\n0050 0.00\n  0008 0.00\n"
            + "  0009 0.00\n    0006 0.00\n    0007 0.00\n0004 0.00\n0005 0.00\n0001 0.00\n");
        x.period(30);
        Due.move(x, 3, 2, 1, 3);
        x.sheet(1);
        Due.is("groups have those of their leaves", Due.sheetOf(x), "9999 0.00\n0040 0.00\n0050 0.00\n"
            + "  0008 0.01\n  0009 -0.01\n    0006 0.00\n    0007 -0.01\n0004 0.00\n0005 0.00\n0001 0.00\n");
    }

    private static void kinds() {
        Due.says("2 five ROWS of KINDS in order: the letter A, D, O, I or C, a blank, MONEY of all its LEAVES together, "
            + "byte 10; then =, a blank, MONEY of all LEAVES, byte 10.");
        LedgerTwice x = new LedgerTwice();
        x.account(1, 4, -1, true);
        for (int kind = 0; kind < 5; kind++) {
            x.account(10 + kind, 4 - kind, kind == 0 ? 0 : -1, false);
        }
        x.account(20, 4, -1, false);
        x.period(30);
        Due.move(x, 5, 1, 1, 3);
        Due.move(x, 4, 2, 20, 3);
        Due.move(x, 5, 3, 300, 3);
        Due.move(x, 5, 6, 4000, 3);
        x.sheet(2);
        Due.is("not twice by groups", Due.sheetOf(x), "A -43.01\nD -0.20\nO 3.00\nI 0.20\nC 40.01\n= 0.00\n");
    }

    private static void emptyBooks() {
        Due.says("5 THE SHEET is a row of bytes");
        LedgerTwice x = new LedgerTwice();
        Due.is("way 0", x.sheet(0), 0);
        Due.is("way 1", x.sheet(1), 0);
        Due.is("way 2", x.sheet(2), 42);
        Due.is("all 0", Due.sheetOf(x), "A 0.00\nD 0.00\nO 0.00\nI 0.00\nC 0.00\n= 0.00\n");
        Due.is("shorter again", x.sheet(0), 0);
        Due.is("none of the longer one", x.shown(0), -2);
    }
}
