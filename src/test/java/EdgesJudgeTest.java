/** The edges that stand under "2 THE DRAFT" and "TO JUDGE", and of BACK, CLOSING and OPENING. */
public final class EdgesJudgeTest {
    private static final long MOST = Due.MOST;

    public static void main(String[] args) {
        draft();
        firstThatFits();
        firstThatFitsOfBack();
        few();
        unequal();
        noDay();
        closed();
        shut();
        over();
        full();
        backs();
        closingLines();
        closingOfThePeriod();
        closingOwner();
        closingDay();
        openings();
        openingOfTheLatest();
        otherNumbersOfLines();
        shutLeaves();
        greaterAmounts();
        Due.end();
    }

    private static void draft() {
        Due.says("2 THE DRAFT has 8 LINES at most.");
        LedgerTwice x = Due.smallBooks();
        for (int i = 1; i <= 8; i++) {
            Due.is("line " + i, x.line(i % 2 * 2, i % 2 == 0 ? -i : i + 1), i);
        }
        Due.refused(x, "line 9", () -> x.line(0, 1), -13);
        Due.is("eight lines are posted", x.post(3, 3), 0);
        Due.is("as they were", Due.linesOf(x, 0), "2:2 0:-2 2:4 0:-4 2:6 0:-6 2:8 0:-8");
        Due.is("a first one again", x.line(0, 1), 1);
    }

    /** 400 entries; period 0 closed; leaf 4 shut, at the end of its balance; then one fault less from call to call. */
    private static void firstThatFits() {
        Due.says("TO JUDGE an ENTRY, the first of these that fits");
        LedgerTwice x = Due.smallBooks();
        x.account(500, 0, -1, false);
        x.account(600, 1, -1, false);
        Due.move(x, 2, 0, 1, 3);
        for (int i = 0; i < 10; i++) {
            Due.move(x, 5, 4, MOST, 40);
        }
        Due.turned(x, 400);
        Due.is("period 0 is closed", x.count(2), 1);
        x.shut(4, true);
        x.line(4, 2);
        Due.refused(x, "FEW", () -> x.post(61, 0), -7);
        x.line(0, -1);
        Due.refused(x, "UNEQUAL", () -> x.post(61, 0), -8);
        x.line(0, -1);
        Due.refused(x, "NODAY", () -> x.post(61, 0), -9);
        Due.refused(x, "CLOSED", () -> x.post(30, 0), -10);
        Due.refused(x, "SHUT", () -> x.post(31, 0), -11);
        x.shut(4, false);
        Due.refused(x, "OVER", () -> x.post(31, 0), -12);
        x.line(4, -2);
        x.line(0, 2);
        Due.refused(x, "FULL", () -> x.post(31, 0), -13);
        Due.is("the draft is kept through all", x.drop(), 5);
    }

    private static void firstThatFitsOfBack() {
        Due.says("TO JUDGE an ENTRY, the first of these that fits");
        LedgerTwice x = Due.smallBooks();
        x.account(500, 0, -1, false);
        x.account(600, 1, -1, false);
        Due.move(x, 2, 0, 1, 3);
        Due.move(x, 5, 4, 1, 40);
        for (int i = 0; i < 10; i++) {
            Due.move(x, 4, 3, MOST, 40);
        }
        Due.move(x, 4, 0, 1, 40);
        Due.is("leaf 4 is at its end", x.balance(4), -10 * MOST);
        Due.turned(x, 400);
        Due.is("period 0 is closed", x.count(2), 1);
        x.shut(4, true);
        Due.refused(x, "NODAY", () -> x.back(1, 61), -9);
        Due.refused(x, "CLOSED", () -> x.back(1, 30), -10);
        Due.refused(x, "SHUT", () -> x.back(1, 31), -11);
        x.shut(4, false);
        Due.refused(x, "OVER", () -> x.back(1, 31), -12);
        Due.refused(x, "FULL", () -> x.back(12, 31), -13);
    }

    private static void few() {
        Due.says("FEW (less than 2 LINES)");
        LedgerTwice x = Due.smallBooks();
        Due.refused(x, "none", () -> x.post(3, 3), -7);
        x.line(0, 5);
        Due.refused(x, "one", () -> x.post(3, 3), -7);
        x.line(0, -5);
        Due.is("two, of one leaf", x.post(3, 3), 0);
        Due.refused(x, "none again", () -> x.post(3, 3), -7);
    }

    private static void unequal() {
        Due.says("UNEQUAL (its AMOUNTS together are not 0)");
        LedgerTwice x = Due.smallBooks();
        x.line(0, MOST);
        x.line(2, 1 - MOST);
        Due.refused(x, "one above", () -> x.post(3, 3), -8);
        x.line(2, -2);
        Due.refused(x, "one below", () -> x.post(3, 3), -8);
        x.line(3, 1);
        Due.is("nothing", x.post(3, 3), 0);
        for (int i = 0; i < 8; i++) {
            x.line(i % 4, MOST);
        }
        Due.refused(x, "eight of the most", () -> x.post(3, 3), -8);
        x.drop();
        // Together 0 if the sum were cut to an int.
        x.line(0, 1L << 32);
        x.line(2, 1L << 32);
        Due.refused(x, "far from nothing", () -> x.post(3, 3), -8);
    }

    private static void noDay() {
        Due.says("NODAY (no PERIOD has the DAY)");
        LedgerTwice x = Due.smallBooks();
        x.line(0, 1);
        x.line(2, -1);
        for (int day : new int[] {-1, 61, 9999, 10000, Due.LEAST_INT, Due.MOST_INT}) {
            Due.refused(x, "day " + day, () -> x.post(day, 3), -9);
        }
        Due.is("the last day", x.post(60, 3), 0);
        Due.is("the first day", Due.move(x, 2, 0, 1, 0), 1);
        Due.refused(x, "back on a day behind", () -> x.back(0, 61), -9);
        Due.refused(x, "back on day -1", () -> x.back(0, -1), -9);
        LedgerTwice y = new LedgerTwice();
        y.account(1, 0, -1, false);
        y.line(0, 1);
        y.line(0, -1);
        Due.refused(y, "no period at all", () -> y.post(0, 3), -9);
        y.period(0);
        Due.is("day 0 alone", y.post(0, 3), 0);
        y.line(0, 1);
        y.line(0, -1);
        Due.refused(y, "day 1", () -> y.post(1, 3), -9);
        y.period(9999);
        Due.is("the greatest day", y.post(9999, 3), 1);
    }

    private static void closed() {
        Due.says("CLOSED (its PERIOD is)");
        LedgerTwice x = Due.smallBooks();
        Due.move(x, 0, 0, 1, 3);
        x.close();
        x.line(0, 1);
        x.line(2, -1);
        Due.refused(x, "the first day", () -> x.post(0, 3), -10);
        Due.refused(x, "the last day", () -> x.post(30, 3), -10);
        Due.refused(x, "back into it", () -> x.back(0, 30), -10);
        Due.is("the day behind it", x.post(31, 3), 1);
        x.close();
        x.line(0, 1);
        x.line(2, -1);
        Due.refused(x, "the first day of the next", () -> x.post(31, 3), -10);
        Due.refused(x, "the last day of all", () -> x.post(60, 3), -10);
        Due.refused(x, "behind all", () -> x.post(61, 3), -9);
        x.reopen();
        Due.is("open again", x.post(31, 3), x.count(3) - 1);
    }

    private static void shut() {
        Due.says("SHUT (a LEAF is)");
        LedgerTwice x = Due.smallBooks();
        Due.move(x, 2, 0, 1, 3);
        for (int leaf : new int[] {0, 2, 3}) {
            x.shut(leaf, true);
            x.line(0, 1);
            x.line(2, 1);
            x.line(3, -2);
            Due.refused(x, "of one of its lines", () -> x.post(3, 3), -11);
            x.drop();
            x.shut(leaf, false);
        }
        x.shut(2, true);
        Due.refused(x, "of a back", () -> x.back(0, 3), -11);
        x.shut(3, true);
        x.shut(1, true);
        x.line(0, 1);
        x.line(0, -1);
        Due.is("only those that it has", x.post(3, 3), 1);
        x.shut(0, true);
        x.shut(3, false);
        x.line(3, 1);
        x.line(3, -1);
        Due.is("only those that it has", x.post(3, 3), 2);
        x.shut(0, false);
        x.shut(2, false);
        Due.is("not any more", x.back(0, 3), 3);
    }

    private static void over() {
        Due.says("OVER (THE BALANCE of a LEAF would be beyond 10000000000000000 in size, with all LINES)");
        LedgerTwice x = Due.smallBooks();
        for (int i = 0; i < 9; i++) {
            Due.move(x, 2, 0, MOST, 3);
        }
        x.line(0, MOST);
        x.line(0, 1);
        x.line(3, -MOST);
        x.line(3, -1);
        Due.refused(x, "one beyond by two lines", () -> x.post(3, 3), -12);
        x.line(0, -1);
        x.line(3, 1);
        Due.is("to the most, with all lines", x.post(3, 3), 9);
        Due.is("the most", x.balance(0), 10 * MOST);
        Due.refused(x, "a draft is no entry", () -> Due.move(x, 3, 0, 1, 3), -12);
        Due.is("less is no fault", Due.move(x, 0, 2, 1, 3), 10);
        Due.is("to the most", Due.move(x, 3, 0, 1, 3), 11);
        LedgerTwice y = Due.smallBooks();
        for (int i = 0; i < 10; i++) {
            Due.is("below nothing", Due.move(y, 2, i % 2 * 3, MOST, 3), i);
        }
        Due.is("the least", y.balance(2), -10 * MOST);
        Due.refused(y, "one beyond", () -> Due.move(y, 2, 0, 1, 3), -12);
        Due.refused(y, "far beyond", () -> Due.move(y, 2, 0, MOST, 3), -12);
        y.line(0, 1);
        Due.refused(y, "a share", () -> y.share(2, 2, 3, 3), -12);
        y.line(2, 1);
        Due.refused(y, "a share of which half comes back", () -> y.share(2, 2, 3, 3), -12);
        y.drop();
        y.line(2, 1);
        Due.is("a share that comes back", y.share(2, 2, 3, 3), 10);
    }

    private static void full() {
        Due.says("FULL (400 ENTRIES are there, or THE JOURNAL has no room).");
        LedgerTwice x = Due.booksOfEntries(400);
        x.line(0, 1);
        x.line(0, -1);
        Due.refused(x, "400 entries", () -> x.post(31, 3), -13);
        LedgerTwice y = Due.booksWithRoom(11);
        y.line(0, 1);
        y.line(0, -1);
        Due.refused(y, "a byte too few", () -> y.post(3, 64), -13);
        Due.is("room for just that", y.post(3, 63), y.count(3) - 1);
        Due.is("no byte is left", y.count(5), 6000);
    }

    private static void backs() {
        Due.says("BACK of an ENTRY has its LINES in order, each less its AMOUNT, and its TAG.");
        LedgerTwice x = Due.smallBooks();
        long[] amounts = {MOST, -MOST, 1, -2, 3, -4, 5, -3};
        for (int i = 0; i < 8; i++) {
            x.line(3 - i % 4, amounts[i]);
        }
        Due.is("eight lines", x.post(3, Due.LEAST_INT), 0);
        Due.is("back", x.back(0, 60), 1);
        Due.is("lines", Due.linesOf(x, 1),
            "3:" + -MOST + " 2:" + MOST + " 1:-1 0:2 3:-3 2:4 1:-5 0:3");
        Due.is("tag", x.entry(1, 1), Due.LEAST_INT);
        Due.is("day", x.entry(1, 0), 60);
        for (int a = 0; a < 4; a++) {
            Due.is("nothing is left", x.balance(a), 0);
        }
    }

    private static void closingLines() {
        Due.says("CLOSING of a PERIOD: for each LEAF of INCOME and COSTS, by CODES, of which the AMOUNTS in ENTRIES "
            + "of that PERIOD's DAYS together are not 0: a LINE of less that");
        LedgerTwice x = new LedgerTwice();
        x.account(9999, 3, -1, false);
        x.account(2, 2, -1, false);
        x.account(11, 4, -1, true);
        x.account(10, 4, 2, false);
        x.account(9, 3, -1, false);
        x.account(5, 4, 2, false);
        x.account(4, 0, -1, false);
        x.account(3, 1, -1, false);
        x.account(1, 3, -1, false);
        x.period(30);
        x.owner(1);
        Due.move(x, 6, 0, 1, 3);
        Due.move(x, 6, 3, 20, 3);
        Due.move(x, 6, 4, 300, 3);
        Due.move(x, 6, 5, 4000, 3);
        Due.move(x, 4, 6, 300, 3);
        Due.move(x, 7, 6, 9, 3);
        Due.move(x, 8, 6, 50000, 3);
        x.close();
        Due.is("by codes, none that has nothing", Due.linesOf(x, 7), "8:50000 5:-4000 3:-20 0:-1 1:-45979");
    }

    private static void closingOfThePeriod() {
        Due.says("of which the AMOUNTS in ENTRIES of that PERIOD's DAYS together are not 0");
        LedgerTwice x = Due.smallBooks();
        x.period(61);
        Due.move(x, 2, 0, 1, 0);
        Due.move(x, 2, 0, 10, 30);
        Due.move(x, 2, 0, 100, 31);
        Due.move(x, 2, 0, 1000, 60);
        Due.move(x, 2, 0, 10000, 61);
        x.close();
        Due.is("its first and last day", Due.linesOf(x, 5), "2:11 1:-11");
        x.close();
        Due.is("the day behind, and its last", Due.linesOf(x, 6), "2:1100 1:-1100");
        x.close();
        Due.is("one day alone", Due.linesOf(x, 7), "2:10000 1:-10000");
        // Its balance is nothing, but its amounts in the period are not.
        LedgerTwice y = Due.smallBooks();
        Due.move(y, 2, 0, 5, 3);
        Due.move(y, 0, 2, 5, 33);
        y.close();
        Due.is("not by the balance", Due.linesOf(y, 2), "2:5 1:-5");
        y.reopen();
        y.close();
        Due.is("closing and opening are entries of it, too", Due.linesOf(y, 4), "2:5 1:-5");
    }

    private static void closingOwner() {
        Due.says("and if all these together are not 0, a LINE of THE OWNER's LEAF of less them (behind the others).");
        LedgerTwice x = Due.smallBooks();
        Due.move(x, 2, 3, 7, 3);
        x.close();
        Due.is("together 0", Due.linesOf(x, 1), "2:7 3:-7");
        Due.move(x, 2, 3, 7, 33);
        Due.move(x, 2, 1, 1, 33);
        x.close();
        Due.is("not 0, though the owner has a line", Due.linesOf(x, 4), "2:8 3:-7 1:-1");
        Due.is("the owner", x.balance(1), 0);
    }

    private static void closingDay() {
        Due.says("It has the LAST DAY, TAG 0.");
        LedgerTwice x = Due.smallBooks();
        x.line(0, 1);
        x.line(2, -1);
        x.post(0, 77);
        x.close();
        Due.is("day", x.entry(1, 0), 30);
        Due.is("tag", x.entry(1, 1), 0);
        LedgerTwice y = new LedgerTwice();
        y.account(1, 2, -1, false);
        y.account(2, 3, -1, false);
        y.owner(0);
        y.period(0);
        Due.move(y, 0, 1, 1, 0);
        y.close();
        Due.is("the first day is the last", y.entry(1, 0), 0);
    }

    private static void openings() {
        Due.says("each less its AMOUNT, in order, its DAY and TAG.");
        LedgerTwice x = Due.smallBooks();
        x.line(2, -9);
        x.line(3, 4);
        x.line(0, 5);
        x.post(3, 77);
        x.close();
        Due.is("closing", Due.linesOf(x, 1), "2:9 3:-4 1:-5");
        x.reopen();
        Due.is("opening", Due.linesOf(x, 2), "2:-9 3:4 1:5");
        Due.is("day", x.entry(2, 0), 30);
        Due.is("tag", x.entry(2, 1), 0);
    }

    private static void openingOfTheLatest() {
        Due.says("OPENING has the LINES of the latest CLOSING of that PERIOD");
        LedgerTwice x = Due.smallBooks();
        x.account(210, 2, -1, false);
        Due.move(x, 2, 0, 5, 3);
        x.close();
        x.reopen();
        Due.move(x, 2, 0, 6, 3);
        x.owner(4);
        x.close();
        Due.move(x, 2, 0, 100, 33);
        x.close();
        x.owner(1);
        Due.is("the second one", x.reopen(), 1);
        Due.is("of its own closing", Due.linesOf(x, 7), "2:-100 4:100");
        Due.is("the first one", x.reopen(), 0);
        Due.is("of the later closing, of the owner that was", Due.linesOf(x, 8), "2:-11 4:11");
    }

    private static void otherNumbersOfLines() {
        Due.says("(These may have other numbers of LINES, SHUT LEAVES, AMOUNTS that are greater.)");
        LedgerTwice x = Due.booksToCloseWidely();
        int entries = x.count(3);
        Due.is("close", x.close(), 0);
        Due.is("far more than a draft has", x.entry(entries, 3), 60);
        for (int i = 0; i < 59; i++) {
            Due.is("leaf of line " + i, x.lineOf(entries, i, 0), i + 1);
            Due.is("amount of line " + i, x.lineOf(entries, i, 1), -i - 1);
        }
        Due.is("the owner's", x.lineOf(entries, 59, 1), 1770);
        Due.is("no line more", x.lineOf(entries, 60, 1), Due.LEAST);
        Due.is("reopen", x.reopen(), 0);
        Due.is("as many", x.entry(entries + 1, 3), 60);
        Due.is("the owner's", x.lineOf(entries + 1, 59, 1), -1770);
    }

    private static void shutLeaves() {
        Due.says("(These may have other numbers of LINES, SHUT LEAVES, AMOUNTS that are greater.)");
        LedgerTwice x = Due.smallBooks();
        Due.move(x, 2, 0, 5, 3);
        x.shut(1, true);
        x.shut(2, true);
        Due.is("close", x.close(), 0);
        Due.is("lines", Due.linesOf(x, 1), "2:5 1:-5");
        Due.is("reopen", x.reopen(), 0);
        Due.is("lines", Due.linesOf(x, 2), "2:-5 1:5");
    }

    /** Of two leaves, 20 times the most in period 0, as half of it was taken back in period 1. */
    private static void greaterAmounts() {
        Due.says("(These may have other numbers of LINES, SHUT LEAVES, AMOUNTS that are greater.)");
        LedgerTwice x = Due.smallBooks();
        for (int i = 0; i < 10; i++) {
            Due.move(x, 3, 2, MOST, 3);
        }
        for (int i = 0; i < 10; i++) {
            Due.move(x, 2, 3, MOST, 33);
        }
        for (int i = 0; i < 10; i++) {
            Due.move(x, 3, 2, MOST, 3);
        }
        Due.is("close", x.close(), 0);
        Due.is("lines", Due.linesOf(x, 30), "2:" + -20 * MOST + " 3:" + 20 * MOST);
        Due.is("to the least", x.balance(2), -10 * MOST);
        Due.is("reopen", x.reopen(), 0);
        Due.is("to the most", x.balance(2), 10 * MOST);
        Due.is("lines", Due.linesOf(x, 31), "2:" + 20 * MOST + " 3:" + -20 * MOST);
        x.crash(6000, 0);
        x.recover();
        Due.is("made anew", Due.linesOf(x, 31), "2:" + 20 * MOST + " 3:" + -20 * MOST);
    }
}
