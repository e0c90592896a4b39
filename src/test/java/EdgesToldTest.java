/** The edges of promises 17 to 27: what is told. */
public final class EdgesToldTest {
    private static final long MOST = Due.MOST;
    private static final int[] NO_NUMBERS = {-1, Due.LEAST_INT, Due.MOST_INT};

    public static void main(String[] args) {
        of();
        ofRefused();
        balance();
        balanceRefused();
        sum();
        sumDays();
        sumRefused();
        entry();
        entryRefused();
        entryTag();
        lineOf();
        lineOfRefused();
        ledger();
        ledgerRefused();
        periodOf();
        periodOfRefused();
        sheet();
        sheetRefused();
        shown();
        part();
        partRefused();
        count();
        countRecords();
        countRefused();
        Due.end();
    }

    private static void of() {
        Due.says("Of an ACCOUNT: 0 CODE, 1 KIND, 2 PARENT, 3 whether it is a GROUP, 4 SHUT, 5 DEPTH, 6 how many LINES "
            + "of ENTRIES it has (of a GROUP 0).");
        LedgerTwice x = Due.smallBooks();
        x.account(9999, 3, -1, true);
        x.account(1, 3, 4, false);
        x.shut(0, true);
        x.shut(0, false);
        x.line(5, 1);
        x.line(5, 1);
        x.line(0, -2);
        x.post(3, 3);
        x.line(5, 9);
        x.back(0, 3);
        x.close();
        Due.move(x, 5, 0, 7, 3);
        Due.is("closed, so there is none", x.of(5, 6), 4);
        x.shut(5, true);
        int[][] due = {{100, 0, -1, 0, 0, 0, 2}, {9999, 3, -1, 1, 0, 0, 0}, {1, 3, 4, 0, 1, 1, 4}};
        int[] accounts = {0, 4, 5};
        for (int i = 0; i < accounts.length; i++) {
            for (int what = 0; what <= 6; what++) {
                Due.is("of(" + accounts[i] + ", " + what + ")", x.of(accounts[i], what), due[i][what]);
            }
        }
    }

    private static void ofRefused() {
        Due.says("6 how many LINES of ENTRIES it has (of a GROUP 0). UNKNOWN; OUTSIDE.");
        LedgerTwice x = Due.smallBooks();
        for (int i : NO_NUMBERS) {
            Due.is("of(" + i + ", 0)", x.of(i, 0), -2);
            Due.is("of(0, " + i + ")", x.of(0, i), -3);
        }
        Due.is("behind the last", x.of(4, 0), -2);
        Due.is("the last", x.of(3, 0), 400);
        Due.is("what 7", x.of(0, 7), -3);
    }

    private static void balance() {
        Due.says("THE BALANCE.");
        LedgerTwice x = Due.smallBooks();
        Due.is("none", x.balance(0), 0);
        for (int i = 0; i < 10; i++) {
            Due.move(x, 2, 0, MOST, 3);
        }
        Due.is("the most", x.balance(0), 10 * MOST);
        Due.is("the least", x.balance(2), -10 * MOST);
        x.account(500, 0, -1, true);
        Due.is("a group of none", x.balance(4), 0);
    }

    private static void balanceRefused() {
        Due.says("THE BALANCE. The least long: UNKNOWN.");
        LedgerTwice x = Due.smallBooks();
        for (int i : NO_NUMBERS) {
            Due.is("balance(" + i + ")", x.balance(i), Due.LEAST);
        }
        Due.is("behind the last", x.balance(4), Due.LEAST);
        Due.is("the last", x.balance(3), 0);
    }

    private static void sum() {
        Due.says("The AMOUNTS of an ACCOUNT (of all LEAVES under it) in ENTRIES of the DAYS from .. to.");
        LedgerTwice x = new LedgerTwice();
        x.account(1, 0, -1, true);
        x.account(2, 0, 0, true);
        x.account(3, 0, 1, false);
        x.account(4, 0, 0, false);
        x.account(5, 0, -1, false);
        x.account(6, 0, -1, true);
        x.period(9999);
        Due.move(x, 4, 2, 1, 5);
        Due.move(x, 4, 3, 20, 5);
        Due.move(x, 4, 2, 300, 6);
        Due.is("a leaf", x.sum(2, 5, 6), 301);
        Due.is("a group of it", x.sum(1, 5, 6), 301);
        Due.is("the group of both", x.sum(0, 5, 6), 321);
        Due.is("a day of it", x.sum(0, 5, 5), 21);
        Due.is("a group of none", x.sum(5, 5, 6), 0);
        Due.is("the other side", x.sum(4, 0, 9999), -321);
    }

    private static void sumDays() {
        Due.says("in ENTRIES of the DAYS from .. to.");
        LedgerTwice x = Due.smallBooks();
        x.period(9999);
        Due.move(x, 2, 0, 1, 0);
        Due.move(x, 2, 0, 20, 30);
        Due.move(x, 2, 0, 300, 31);
        Due.move(x, 2, 0, 4000, 9999);
        Due.is("all", x.sum(0, 0, 9999), 4321);
        Due.is("far more than all", x.sum(0, Due.LEAST_INT, Due.MOST_INT), 4321);
        Due.is("the first day", x.sum(0, 0, 0), 1);
        Due.is("without the first day", x.sum(0, 1, 9999), 4320);
        Due.is("without the last day", x.sum(0, 0, 9998), 321);
        Due.is("the last day", x.sum(0, 9999, 9999), 4000);
        Due.is("both ends", x.sum(0, 30, 31), 320);
        Due.is("between them", x.sum(0, 32, 9998), 0);
        Due.is("from behind to", x.sum(0, 31, 30), 0);
        Due.is("from far behind to", x.sum(0, Due.MOST_INT, Due.LEAST_INT), 0);
        Due.is("below the days", x.sum(0, Due.LEAST_INT, -1), 0);
        Due.is("beyond the days", x.sum(0, 10000, Due.MOST_INT), 0);
        x.close();
        Due.is("a closing is of its last day", x.sum(2, 30, 30), 1);
        Due.is("the period's come to nothing", x.sum(2, 0, 30), 0);
        for (int i = 0; i < 10; i++) {
            Due.move(x, 0, 3, MOST, 40);
        }
        Due.move(x, 3, 0, MOST, 50);
        for (int i = 0; i < 9; i++) {
            Due.move(x, 3, 0, MOST, 50);
        }
        for (int i = 0; i < 5; i++) {
            Due.move(x, 0, 3, MOST, 40);
        }
        Due.is("beyond any balance", x.sum(3, 40, 40), 15 * MOST);
    }

    private static void sumRefused() {
        Due.says("in ENTRIES of the DAYS from .. to. The least long: UNKNOWN.");
        LedgerTwice x = Due.smallBooks();
        for (int i : NO_NUMBERS) {
            Due.is("sum(" + i + ")", x.sum(i, 0, 60), Due.LEAST);
        }
        Due.is("behind the last", x.sum(4, 0, 60), Due.LEAST);
        Due.is("the last", x.sum(3, 0, 60), 0);
    }

    private static void entry() {
        Due.says("Of an ENTRY: 0 DAY, 1 TAG, 2 SORT, 3 how many LINES, 4 its BACK (NONE), 5 of which it is BACK, "
            + "CLOSING, OPENING (the ENTRY, the PERIOD); NONE.");
        LedgerTwice x = Due.smallBooks();
        x.close();
        for (int i = 0; i < 4; i++) {
            x.line(0, 1);
            x.line(2, -1);
        }
        x.post(31, 8);
        Due.move(x, 2, 0, 1, 60);
        x.back(0, 40);
        x.close();
        x.reopen();
        int[][] due = {{31, 8, 0, 8, 2, -1}, {60, 0, 0, 2, -1, -1}, {40, 8, 1, 8, -1, 0}, {60, 0, 2, 2, -1, 1},
            {60, 0, 3, 2, -1, 1}};
        for (int e = 0; e < due.length; e++) {
            for (int what = 0; what <= 5; what++) {
                Due.is("entry(" + e + ", " + what + ")", x.entry(e, what), due[e][what]);
            }
        }
    }

    private static void entryRefused() {
        Due.says("(the ENTRY, the PERIOD); NONE. UNKNOWN; OUTSIDE.");
        LedgerTwice x = Due.smallBooks();
        Due.is("none at all", x.entry(0, 0), -2);
        Due.move(x, 2, 0, 1, 3);
        for (int i : NO_NUMBERS) {
            Due.is("entry(" + i + ", 0)", x.entry(i, 0), -2);
            Due.is("entry(0, " + i + ")", x.entry(0, i), -3);
        }
        Due.is("behind the last", x.entry(1, 0), -2);
        Due.is("what 6", x.entry(0, 6), -3);
        Due.is("400", Due.booksOfEntries(400).entry(400, 0), -2);
    }

    private static void entryTag() {
        Due.says("(A TAG may be as a refusal is.)");
        LedgerTwice x = Due.smallBooks();
        for (int tag = -13; tag < 0; tag++) {
            x.line(0, 1);
            x.line(2, -1);
            Due.is("post", x.post(3, tag), tag + 13);
            Due.is("tag " + tag, x.entry(tag + 13, 1), tag);
        }
    }

    private static void lineOf() {
        Due.says("Of LINE i of an ENTRY: 0 the ACCOUNT, 1 the AMOUNT.");
        LedgerTwice x = Due.smallBooks();
        Due.move(x, 2, 0, 9, 3);
        for (int i = 0; i < 8; i++) {
            x.line(i % 4, i < 4 ? MOST - i : i - 4 - MOST);
        }
        x.post(3, 3);
        for (int i = 0; i < 8; i++) {
            Due.is("account of line " + i, x.lineOf(1, i, 0), i % 4);
            Due.is("amount of line " + i, x.lineOf(1, i, 1), i < 4 ? MOST - i : i - 4 - MOST);
        }
        Due.is("the first entry's", x.lineOf(0, 1, 1), -9);
    }

    private static void lineOfRefused() {
        Due.says("0 the ACCOUNT, 1 the AMOUNT. The least long: UNKNOWN, OUTSIDE.");
        LedgerTwice x = Due.smallBooks();
        Due.is("none at all", x.lineOf(0, 0, 0), Due.LEAST);
        Due.move(x, 2, 0, 9, 3);
        Due.move(x, 2, 0, 9, 3);
        for (int i : NO_NUMBERS) {
            Due.is("entry " + i, x.lineOf(i, 0, 0), Due.LEAST);
            Due.is("line " + i, x.lineOf(1, i, 0), Due.LEAST);
            Due.is("what " + i, x.lineOf(1, 0, i), Due.LEAST);
        }
        Due.is("entry 2", x.lineOf(2, 0, 0), Due.LEAST);
        Due.is("line 2, though another entry has lines behind it", x.lineOf(0, 2, 0), Due.LEAST);
        Due.is("what 2", x.lineOf(0, 0, 2), Due.LEAST);
    }

    private static void ledger() {
        Due.says("LINE i of a LEAF in the order of ENTRIES: 0 the ENTRY, 1 the AMOUNT, 2 THE BALANCE behind it.");
        LedgerTwice x = Due.smallBooks();
        Due.move(x, 2, 0, 5, 60);
        x.line(0, -9);
        x.line(2, 4);
        x.line(0, 6);
        x.line(2, -1);
        x.post(0, 3);
        x.back(0, 40);
        x.close();
        long[][] assets = {{0, 5, 5}, {1, -9, -4}, {1, 6, 2}, {2, -5, -3}};
        long[][] income = {{0, -5, -5}, {1, 4, -1}, {1, -1, -2}, {2, 5, 3}, {3, -3, 0}};
        for (int what = 0; what < 3; what++) {
            for (int i = 0; i < assets.length; i++) {
                Due.is("ledger(0, " + i + ", " + what + ")", x.ledger(0, i, what), assets[i][what]);
            }
            for (int i = 0; i < income.length; i++) {
                Due.is("ledger(2, " + i + ", " + what + ")", x.ledger(2, i, what), income[i][what]);
            }
        }
        Due.is("the owner's", x.ledger(1, 0, 2), 3);
    }

    private static void ledgerRefused() {
        Due.says("2 THE BALANCE behind it. The least long: UNKNOWN (also a GROUP), OUTSIDE.");
        LedgerTwice x = Due.smallBooks();
        x.account(500, 0, -1, true);
        x.account(510, 0, 4, false);
        Due.is("no line", x.ledger(0, 0, 0), Due.LEAST);
        Due.move(x, 2, 5, 5, 3);
        for (int i : NO_NUMBERS) {
            Due.is("account " + i, x.ledger(i, 0, 0), Due.LEAST);
            Due.is("line " + i, x.ledger(5, i, 0), Due.LEAST);
            Due.is("what " + i, x.ledger(5, 0, i), Due.LEAST);
        }
        Due.is("account 6", x.ledger(6, 0, 0), Due.LEAST);
        Due.is("a group", x.ledger(4, 0, 0), Due.LEAST);
        Due.is("line 1", x.ledger(5, 1, 0), Due.LEAST);
        Due.is("what 3", x.ledger(5, 0, 3), Due.LEAST);
        Due.is("none of these", x.ledger(5, 0, 2), 5);
    }

    private static void periodOf() {
        Due.says("Of a PERIOD: 0 its first DAY, 1 LAST DAY, 2 whether it is CLOSED, 3 its latest CLOSING that was not "
            + "opened again (NONE).");
        LedgerTwice x = Due.smallBooks();
        Due.move(x, 2, 0, 5, 3);
        periodIs(x, 0, 0, 30, 0, -1);
        x.close();
        periodIs(x, 0, 0, 30, 1, 1);
        periodIs(x, 1, 31, 60, 0, -1);
        x.reopen();
        periodIs(x, 0, 0, 30, 0, -1);
        x.close();
        x.close();
        periodIs(x, 0, 0, 30, 1, 3);
        periodIs(x, 1, 31, 60, 1, -1);
        x.crash(6000, 0);
        x.recover();
        periodIs(x, 0, 0, 30, 1, 3);
    }

    private static void periodIs(LedgerTwice x, int period, int... due) {
        for (int what = 0; what < due.length; what++) {
            Due.is("periodOf(" + period + ", " + what + ")", x.periodOf(period, what), due[what]);
        }
    }

    private static void periodOfRefused() {
        Due.says("3 its latest CLOSING that was not opened again (NONE). UNKNOWN; OUTSIDE.");
        LedgerTwice x = Due.smallBooks();
        for (int i : NO_NUMBERS) {
            Due.is("periodOf(" + i + ", 0)", x.periodOf(i, 0), -2);
            Due.is("periodOf(0, " + i + ")", x.periodOf(0, i), -3);
        }
        Due.is("behind the last", x.periodOf(2, 0), -2);
        Due.is("what 4", x.periodOf(1, 4), -3);
        LedgerTwice y = new LedgerTwice();
        for (int p = 0; p < 24; p++) {
            y.period(p);
        }
        Due.is("behind the 24th", y.periodOf(24, 0), -2);
    }

    private static void sheet() {
        Due.says("The SHEET is written by way (0 .. 2): how many bytes; FULL: more than 4000 (it is empty then).");
        LedgerTwice x = Due.smallBooks();
        Due.move(x, 2, 0, 5, 3);
        int[] due = {10 + 11, 10 + 10 + 11 + 10, 6 * 7 + 1};
        for (int way = 0; way <= 2; way++) {
            Due.is("way " + way, x.sheet(way), due[way]);
            Due.is("told", x.count(9), due[way]);
            Due.is("its bytes", Due.sheetOf(x).length(), due[way]);
        }
        Due.is("a shorter one", x.sheet(0), 21);
        Due.is("has nothing behind it", x.shown(21), -2);
        Due.is("the books have what it had", x.balance(0), 5);
    }

    private static void sheetRefused() {
        Due.says("FULL: more than 4000 (it is empty then). OUTSIDE.");
        LedgerTwice x = Due.smallBooks();
        x.sheet(1);
        for (int way : new int[] {-1, 3, Due.LEAST_INT, Due.MOST_INT}) {
            Due.refused(x, "way " + way, () -> x.sheet(way), -3);
        }
        Due.is("the one before is there", x.count(9), 40);
    }

    private static void shown() {
        Due.says("Byte i of THE SHEET. UNKNOWN.");
        LedgerTwice x = Due.smallBooks();
        Due.is("none yet", x.shown(0), -2);
        x.sheet(2);
        Due.is("the first", x.shown(0), 'A');
        Due.is("the last", x.shown(41), 10);
        for (int i : NO_NUMBERS) {
            Due.is("shown(" + i + ")", x.shown(i), -2);
        }
        Due.is("behind the last", x.shown(42), -2);
        x.sheet(0);
        Due.is("an empty one", x.shown(0), -2);
    }

    private static void part() {
        Due.says("SHARE i (0 .. 3) of an AMOUNT (or 0) by four WEIGHTS (0 .. 1000).");
        LedgerTwice x = new LedgerTwice();
        long[][] due = {{250, 250, 250, 250}, {0, 0, 0, 0}, {1, 0, 0, 0}, {MOST / 4, MOST / 4, MOST / 4, MOST / 4},
            {-MOST / 4, -MOST / 4, -MOST / 4, -MOST / 4}};
        long[] amounts = {1000, 0, 1, MOST, -MOST};
        for (int k = 0; k < amounts.length; k++) {
            for (int i = 0; i < 4; i++) {
                Due.is("part " + i + " of " + amounts[k], x.part(amounts[k], 1000, 1000, 1000, 1000, i), due[k][i]);
            }
        }
        Due.is("a weight alone", x.part(MOST, 0, 0, 0, 1, 3), MOST);
        Due.is("those without", x.part(MOST, 0, 0, 0, 1, 2), 0);
        Due.is("nothing is changed", Due.told(x).equals(Due.told(new LedgerTwice())) ? 1 : 0, 1);
    }

    private static void partRefused() {
        Due.says("The least long: UNKNOWN, OUTSIDE (the AMOUNT, a WEIGHT; all of these 0).");
        LedgerTwice x = new LedgerTwice();
        for (int i : new int[] {-1, 4, Due.LEAST_INT, Due.MOST_INT}) {
            Due.is("share " + i, x.part(5, 1, 1, 1, 1, i), Due.LEAST);
        }
        for (long amount : new long[] {MOST + 1, -MOST - 1, Due.LEAST, Long.MAX_VALUE}) {
            Due.is("amount " + amount, x.part(amount, 1, 1, 1, 1, 0), Due.LEAST);
        }
        for (int w : new int[] {-1, 1001, Due.LEAST_INT, Due.MOST_INT}) {
            Due.is("weight 0 of " + w, x.part(5, w, 1, 1, 1, 0), Due.LEAST);
            Due.is("weight 1 of " + w, x.part(5, 1, w, 1, 1, 0), Due.LEAST);
            Due.is("weight 2 of " + w, x.part(5, 1, 1, w, 1, 0), Due.LEAST);
            Due.is("weight 3 of " + w, x.part(5, 1, 1, 1, w, 0), Due.LEAST);
        }
        Due.is("all 0", x.part(5, 0, 0, 0, 0, 0), Due.LEAST);
        Due.is("all 0, and of nothing", x.part(0, 0, 0, 0, 0, 0), Due.LEAST);
        Due.is("they come to 0", x.part(5, 1, -1, 0, 0, 0), Due.LEAST);
    }

    private static void count() {
        Due.says("0 ACCOUNTS, 1 PERIODS, 2 of them CLOSED, 3 ENTRIES, 4 LINES of THE DRAFT, 5 bytes of THE JOURNAL, "
            + "6 DURABLE,");
        Due.says("8 THE OWNER's LEAF (NONE), 9 bytes of THE SHEET, 10 whether it is UP.");
        LedgerTwice x = Due.smallBooks();
        x.period(90);
        Due.move(x, 2, 0, 5, 3);
        x.close();
        x.close();
        int durable = x.sync();
        x.shut(0, true);
        x.line(0, 1);
        x.line(0, 1);
        x.line(0, 1);
        x.sheet(0);
        int[] due = {4, 3, 2, 2, 3, durable + 6, durable, 12, 1, x.sheet(0), 1};
        for (int what = 0; what < due.length; what++) {
            Due.is("count(" + what + ")", x.count(what), due[what]);
        }
        LedgerTwice y = Due.booksOfEntries(400);
        Due.is("400 entries", y.count(3), 400);
    }

    private static void countRecords() {
        Due.says("7 RECORDS that were WRITTEN or DONE since the books were empty");
        LedgerTwice x = Due.smallBooks();
        Due.is("written", x.count(7), 7);
        x.account(0, 0, -1, false);
        x.line(0, 1);
        Due.is("none by a refused call, none by a line", x.count(7), 7);
        x.crash(6000, 1);
        Due.is("the books are not empty yet", x.count(7), 7);
        x.recover();
        Due.is("done", x.count(7), 6);
        x.owner(1);
        x.owner(1);
        Due.is("done and written", x.count(7), 8);
        x.crash(0, 0);
        x.recover();
        Due.is("done", x.count(7), 6);
        LedgerTwice y = new LedgerTwice();
        y.account(1, 0, -1, false);
        y.crash(0, 0);
        y.recover();
        Due.is("none", y.count(7), 0);
    }

    private static void countRefused() {
        Due.says("OUTSIDE (ahead of NOT).");
        LedgerTwice x = Due.smallBooks();
        int[] outside = {-1, 11, Due.LEAST_INT, Due.MOST_INT};
        for (int what : outside) {
            Due.is("count(" + what + ")", x.count(what), -3);
        }
        x.crash(0, 0);
        for (int what : outside) {
            Due.is("count(" + what + ") when down", x.count(what), -3);
        }
        Due.is("NOT", x.count(0), -6);
        Due.is("NOT", x.count(8), -6);
    }
}
