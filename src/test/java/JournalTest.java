/** Promises 13 to 16 and 27: sync, crash, recover, byteAt, count; the bytes of each record; what is told when down. */
public final class JournalTest {
    private static final long MOST = 1000000000000000L;

    public static void main(String[] args) {
        recordsOfAccounts();
        recordsOfEntries();
        sync();
        crash();
        crashEmpties();
        crashesOnEndOfRecord();
        everyCut();
        recoverKeepsAll();
        downIsNot();
        counts();
        journalFull();
        Due.end();
    }

    /** CHECK told bit by bit, as the document tells it. */
    private static String checked(int... bytes) {
        long c = 65535;
        StringBuilder text = new StringBuilder();
        for (int b : bytes) {
            c = c ^ 256L * b;
            for (int i = 0; i < 8; i++) {
                boolean bit15 = c / 32768 % 2 == 1;
                c = 2 * c;
                if (bit15) {
                    c = c ^ 4129;
                }
            }
            c = c % 65536;
            text.append(b).append(' ');
        }
        return text.append(c / 256).append(' ').append(c % 256).toString();
    }

    private static String since(LedgerTwice x, int start) {
        StringBuilder text = new StringBuilder();
        for (int i = start; i < x.count(5); i++) {
            text.append(i > start ? " " : "").append(x.byteAt(i));
        }
        return text.toString();
    }

    private static void recordsOfAccounts() {
        LedgerTwice x = new LedgerTwice();
        x.account(100, 0, -1, false);
        Due.is("account", since(x, 0), checked(5, 1, 200, 1, 0, 1, 0));
        int start = x.count(5);
        x.account(9999, 2, -1, true);
        Due.is("account", since(x, start), checked(6, 1, 158, 156, 1, 4, 1, 2));
        start = x.count(5);
        x.account(63, 2, 1, false);
        Due.is("account", since(x, start), checked(4, 1, 126, 4, 2, 0));
        start = x.count(5);
        x.account(64, 2, 1, false);
        Due.is("account", since(x, start), checked(5, 1, 128, 1, 4, 2, 0));
        start = x.count(5);
        x.shut(2, true);
        Due.is("shut", since(x, start), checked(2, 2, 4, 2));
        start = x.count(5);
        x.shut(2, false);
        Due.is("not shut", since(x, start), checked(2, 2, 4, 0));
        start = x.count(5);
        x.period(0);
        Due.is("period", since(x, start), checked(1, 3, 0));
        start = x.count(5);
        x.period(8192);
        Due.is("period", since(x, start), checked(3, 3, 128, 128, 1));
        start = x.count(5);
        x.owner(3);
        Due.is("owner", since(x, start), checked(1, 4, 6));
    }

    private static void recordsOfEntries() {
        LedgerTwice x = Due.smallBooks();
        int start = x.count(5);
        x.line(0, 1);
        x.line(2, -1);
        x.post(30, -2);
        Due.is("post", since(x, start), checked(7, 5, 60, 3, 4, 0, 2, 4, 1));
        start = x.count(5);
        x.line(0, MOST);
        x.line(2, -MOST);
        x.post(31, Integer.MIN_VALUE);
        Due.is("post", since(x, start), checked(25, 5, 62, 255, 255, 255, 255, 15, 4,
            0, 128, 128, 180, 204, 212, 223, 198, 3, 4, 255, 255, 179, 204, 212, 223, 198, 3));
        start = x.count(5);
        x.line(0, 2);
        x.line(3, 1);
        x.share(2, -4, 3, Integer.MAX_VALUE);
        Due.is("share", since(x, start), checked(13, 5, 6, 254, 255, 255, 255, 15, 6, 4, 8, 0, 5, 6, 1));
        start = x.count(5);
        x.back(2, 40);
        Due.is("back", since(x, start), checked(2, 6, 4, 80));
        start = x.count(5);
        x.close();
        Due.is("close", since(x, start), checked(0, 7));
        start = x.count(5);
        x.reopen();
        Due.is("reopen", since(x, start), checked(0, 8));
        Due.is("byte -1", x.byteAt(-1), -2);
        Due.is("byte behind all", x.byteAt(x.count(5)), -2);
        Due.is("last byte", x.byteAt(x.count(5) - 1) >= 0 ? 1 : 0, 1);
    }

    private static void sync() {
        LedgerTwice x = Due.smallBooks();
        int all = x.count(5);
        Due.is("nothing durable yet", x.count(6), 0);
        Due.is("sync", x.sync(), all);
        Due.is("durable", x.count(6), all);
        Due.is("again", x.sync(), 0);
        x.close();
        Due.is("a record more", x.sync(), 4);
        Due.is("durable", x.count(6), all + 4);
    }

    private static void crash() {
        LedgerTwice x = Due.smallBooks();
        x.sync();
        int durable = x.count(6);
        x.close();
        x.reopen();
        int last = x.byteAt(durable + 4);
        Due.is("n below 0", x.crash(-1, 0), -3);
        Due.is("by -1", x.crash(0, -1), -3);
        Due.is("by 256", x.crash(0, 256), -3);
        Due.is("still up", x.count(10), 1);
        Due.is("five are kept", x.crash(5, 255), durable + 5);
        Due.is("laid upon the last", x.byteAt(durable + 4), last ^ 255);
        Due.is("none behind", x.byteAt(durable + 5), -2);
        Due.is("down", x.count(10), 0);
        Due.is("durable", x.count(6), durable);
        Due.is("down once more", x.crash(Integer.MAX_VALUE, 255), durable + 5);
        Due.is("laid again", x.byteAt(durable + 4), last);
        Due.is("none is kept, none is laid", x.crash(0, 255), durable);
        Due.is("durable bytes stay", x.recover(), 7);
        Due.is("up", x.count(10), 1);
        LedgerTwice z = Due.smallBooks();
        int first = z.byteAt(0);
        Due.is("one is kept", z.crash(1, 5), 1);
        Due.is("laid upon it", z.byteAt(0), first ^ 5);
        LedgerTwice y = new LedgerTwice();
        Due.is("nothing to keep", y.crash(9, 9), 0);
        Due.is("nothing to do", y.recover(), 0);
    }

    private static void crashEmpties() {
        LedgerTwice x = Due.smallBooks();
        x.line(0, 1);
        x.sheet(2);
        Due.is("a sheet", x.count(9) > 0 ? 1 : 0, 1);
        x.crash(6000, 0);
        Due.is("no sheet", x.count(9), 0);
        x.recover();
        Due.is("no draft", x.count(4), 0);
        Due.is("no sheet", x.shown(0), -2);
    }

    private static void crashesOnEndOfRecord() {
        LedgerTwice x = Due.smallBooks();
        int all = x.count(5);
        x.crash(6000, 1);
        Due.is("the last record is torn", x.recover(), 6);
        Due.is("cut", x.count(5), all - 5);
        Due.is("durable", x.count(6), all - 5);
        Due.is("no owner", x.count(8), -1);
        Due.is("records", x.count(7), 6);
        x.owner(1);
        Due.is("one more", x.count(7), 7);
        Due.is("written behind", x.count(5), all);
    }

    /** Cut at every byte: what is left is what the whole records made, and the rest is gone. */
    private static void everyCut() {
        int all = filled().count(5);
        for (int n = 0; n <= all; n++) {
            LedgerTwice x = filled();
            int whole = wholeRecords(x, n);
            Due.is("crash(" + n + ")", x.crash(n, 0), n);
            Due.is("recover of " + n, x.recover(), whole);
            Due.is("records", x.count(7), whole);
            Due.is("bytes", x.count(5), bytesOf(filled(), whole));
            Due.is("all durable", x.count(6), x.count(5));
            LedgerTwice y = filled();
            Due.is("crash(" + n + ", 128)", y.crash(n, 128), n);
            Due.is("recover of a torn one", y.recover(), n == 0 ? 0 : wholeRecords(filled(), n - 1));
        }
    }

    private static LedgerTwice filled() {
        LedgerTwice x = Due.smallBooks();
        Due.move(x, 2, 0, 123456, 3);
        Due.move(x, 0, 3, 99, 3);
        x.back(1, 31);
        x.shut(0, true);
        x.close();
        x.reopen();
        x.close();
        x.close();
        return x;
    }

    private static int wholeRecords(LedgerTwice x, int n) {
        int records = 0;
        int at = 0;
        while (at < n && at + x.byteAt(at) + 4 <= n) {
            at += x.byteAt(at) + 4;
            records++;
        }
        return records;
    }

    private static int bytesOf(LedgerTwice x, int records) {
        int at = 0;
        for (int i = 0; i < records; i++) {
            at += x.byteAt(at) + 4;
        }
        return at;
    }

    private static void recoverKeepsAll() {
        LedgerTwice x = filled();
        String before = Due.booksOf(x);
        String bytes = Due.journalOf(x);
        int records = x.count(7);
        Due.is("up already", x.recover(), -6);
        x.crash(6000, 0);
        Due.is("recover", x.recover(), records);
        Due.is("all is as it was", Due.booksOf(x), before);
        Due.is("bytes", Due.journalOf(x), bytes);
        Due.is("up already", x.recover(), -6);
        x.crash(0, 255);
        Due.is("all was durable", x.recover(), records);
        Due.is("all is as it was", Due.booksOf(x), before);
    }

    private static void downIsNot() {
        LedgerTwice x = filled();
        int bytes = x.count(5);
        int records = x.count(7);
        x.crash(6000, 0);
        Due.is("account", x.account(0, 9, 99, false), -6);
        Due.is("shut", x.shut(99, true), -6);
        Due.is("period", x.period(-1), -6);
        Due.is("owner", x.owner(99), -6);
        Due.is("line", x.line(0, 1), -6);
        Due.is("drop", x.drop(), -6);
        Due.is("post", x.post(1, 1), -6);
        Due.is("back", x.back(99, 1), -6);
        Due.is("close", x.close(), -6);
        Due.is("reopen", x.reopen(), -6);
        Due.is("share", x.share(99, 1, 1, 1), -6);
        Due.is("sync", x.sync(), -6);
        Due.is("of", x.of(99, 0), -6);
        Due.is("balance", x.balance(0), Due.LEAST);
        Due.is("sum", x.sum(0, 0, 60), Due.LEAST);
        Due.is("entry", x.entry(0, 0), -6);
        Due.is("lineOf", x.lineOf(0, 0, 0), Due.LEAST);
        Due.is("ledger", x.ledger(0, 0, 0), Due.LEAST);
        Due.is("periodOf", x.periodOf(0, 0), -6);
        Due.is("sheet", x.sheet(9), -6);
        Due.is("shown", x.shown(0), -6);
        Due.is("part", x.part(5, 1, 0, 0, 0, 0), 5);
        Due.is("byteAt", x.byteAt(0), 5);
        Due.is("crash", x.crash(-1, 0), -3);
        int[] due = {-6, -6, -6, -6, -6, bytes, 0, records, -6, 0, 0};
        for (int what = 0; what < due.length; what++) {
            Due.is("count(" + what + ")", x.count(what), due[what]);
        }
        Due.is("OUTSIDE ahead of NOT", x.count(11), -3);
        Due.is("OUTSIDE ahead of NOT", x.count(-1), -3);
        Due.is("nothing was changed", x.recover(), records);
    }

    private static void counts() {
        LedgerTwice x = Due.smallBooks();
        Due.move(x, 2, 0, 5, 3);
        x.close();
        x.line(0, 1);
        x.sync();
        x.sheet(0);
        int[] due = {4, 2, 1, 2, 1, x.count(5), x.count(5), 9, 1, x.count(9), 1};
        for (int what = 0; what < due.length; what++) {
            Due.is("count(" + what + ")", x.count(what), due[what]);
        }
        Due.is("bytes of the sheet", x.count(9), Due.sheetOf(x).length());
        Due.is("count(-1)", x.count(-1), -3);
        Due.is("count(11)", x.count(11), -3);
        Due.is("count of the least", x.count(Integer.MIN_VALUE), -3);
    }

    /** There is room for a closing alone. */
    private static void journalFull() {
        LedgerTwice x = Due.booksWithRoom(4);
        int bytes = x.count(5);
        int records = x.count(7);
        String before = Due.booksOf(x);
        Due.is("account", x.account(1, 0, -1, false), -13);
        Due.is("shut", x.shut(3, x.of(3, 4) == 0), -13);
        Due.is("period", x.period(90), -13);
        Due.is("owner", x.owner(1), -13);
        Due.is("back", x.back(1, 31), -13);
        x.line(0, 1);
        x.line(0, -1);
        Due.is("post", x.post(40, 40), -13);
        Due.is("the draft is kept", x.count(4), 2);
        x.drop();
        x.line(0, 1);
        Due.is("share", x.share(2, 1, 40, 40), -13);
        Due.is("the draft is kept", x.count(4), 1);
        Due.is("nothing was written", x.count(5), bytes);
        Due.is("nothing was written", x.count(7), records);
        Due.is("nothing was changed", Due.booksOf(x), before);
        Due.is("close", x.close(), 0);
        Due.is("reopen", x.reopen(), -13);
        x.crash(6000, 0);
        Due.is("recover", x.recover(), records + 1);
        Due.is("bytes", x.count(5), 6000);
        Due.is("still full", x.owner(1), -13);
    }
}
