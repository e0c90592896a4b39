/** The edges of promises 13 to 16: sync, crash, recover, byteAt. */
public final class EdgesBytesTest {
    public static void main(String[] args) {
        sync();
        crash();
        crashLays();
        crashEmpties();
        crashRefused();
        crashWhenDown();
        recover();
        recoverRefused();
        byteAt();
        byteAtUnknown();
        Due.end();
    }

    private static void sync() {
        Due.says("All of THE JOURNAL is DURABLE: how many bytes were not.");
        LedgerTwice x = new LedgerTwice();
        Due.is("an empty one", x.sync(), 0);
        x.account(1, 0, -1, false);
        Due.is("nothing durable", x.count(6), 0);
        Due.is("one record", x.sync(), 8);
        Due.is("durable", x.count(6), 8);
        Due.is("none any more", x.sync(), 0);
        x.shut(0, true);
        x.shut(0, false);
        Due.is("those that came behind", x.sync(), 12);
        Due.is("durable", x.count(6), 20);
        x.crash(0, 0);
        x.recover();
        Due.is("none behind a recover()", x.sync(), 0);
        LedgerTwice y = Due.booksWithRoom(0);
        Due.is("a full one", y.sync(), 6000);
        Due.is("durable", y.count(6), 6000);
    }

    private static void crash() {
        Due.says("crash(): n of the bytes that are not DURABLE are kept at most");
        int[] ns = {0, 1, 7, 8, 9, 6000, Due.MOST_INT};
        int[] due = {8, 9, 15, 16, 16, 16, 16};
        for (int i = 0; i < ns.length; i++) {
            LedgerTwice x = new LedgerTwice();
            x.account(1, 0, -1, false);
            x.sync();
            x.account(2, 0, -1, false);
            Due.is("crash(" + ns[i] + ")", x.crash(ns[i], 0), due[i]);
            Due.is("told", x.count(5), due[i]);
            Due.is("records", x.recover(), due[i] / 8);
        }
    }

    private static void crashLays() {
        Due.says("by (0 .. 255) is laid upon the last of them, if there is one: how many bytes THE JOURNAL has.");
        for (int by = 0; by < 256; by++) {
            LedgerTwice x = new LedgerTwice();
            x.account(1, 0, -1, false);
            x.sync();
            x.account(2, 0, -1, false);
            int last = x.byteAt(11);
            Due.is("crash", x.crash(4, by), 12);
            Due.is("by " + by, x.byteAt(11), last ^ by);
        }
        LedgerTwice y = new LedgerTwice();
        y.account(1, 0, -1, false);
        int first = y.byteAt(0);
        Due.is("the only one", y.crash(1, 5), 1);
        Due.is("the only one", y.byteAt(0), first ^ 5);
        LedgerTwice x = new LedgerTwice();
        x.account(1, 0, -1, false);
        int last = x.byteAt(7);
        x.sync();
        x.crash(1, 255);
        Due.is("none is there that is not durable", x.byteAt(7), last);
        Due.is("recover", x.recover(), 1);
    }

    private static void crashEmpties() {
        Due.says("THE DRAFT and THE SHEET are empty.");
        LedgerTwice x = Due.smallBooks();
        for (int i = 0; i < 8; i++) {
            x.line(0, 1);
        }
        x.sheet(2);
        x.crash(6000, 0);
        Due.is("no byte of the sheet", x.count(9), 0);
        x.recover();
        Due.is("no byte of the sheet", x.count(9), 0);
        Due.is("no byte of the sheet", x.shown(0), -2);
        Due.is("no line", x.count(4), 0);
        Due.is("no line", x.drop(), 0);
    }

    private static void crashRefused() {
        Due.says("OUTSIDE: n below 0, by.");
        LedgerTwice x = Due.smallBooks();
        x.line(0, 1);
        x.sheet(2);
        for (int n : new int[] {-1, Due.LEAST_INT}) {
            Due.refused(x, "n of " + n, () -> x.crash(n, 0), -3);
        }
        for (int by : new int[] {-1, 256, Due.LEAST_INT, Due.MOST_INT}) {
            Due.refused(x, "by " + by, () -> x.crash(0, by), -3);
        }
        Due.is("it is up", x.count(10), 1);
        Due.is("the draft is kept", x.drop(), 1);
    }

    private static void crashWhenDown() {
        Due.says("crash(): n of the bytes that are not DURABLE are kept at most");
        LedgerTwice x = Due.smallBooks();
        int all = x.count(5);
        x.crash(all, 0);
        Due.is("a byte less", x.crash(all - 1, 0), all - 1);
        Due.is("what is gone is gone", x.crash(all, 0), all - 1);
        Due.is("nothing is left", x.crash(0, 255), 0);
        Due.is("nothing is left", x.crash(5, 255), 0);
        Due.is("recover", x.recover(), 0);
        Due.is("empty books", x.count(0), 0);
    }

    private static void recover() {
        Due.says("recover(): how many RECORDS were DONE.");
        LedgerTwice x = new LedgerTwice();
        x.crash(0, 0);
        Due.is("none", x.recover(), 0);
        x.account(1, 0, -1, false);
        x.shut(0, true);
        x.period(0);
        x.sync();
        x.crash(0, 0);
        Due.is("all", x.recover(), 3);
        Due.is("told", x.count(7), 3);
        x.period(1);
        Due.is("one more", x.count(7), 4);
        x.crash(4, 0);
        Due.is("it was torn", x.recover(), 3);
        Due.is("told", x.count(7), 3);
        Due.is("books", x.of(0, 4) * 100 + x.count(0) * 10 + x.count(1), 111);
    }

    private static void recoverRefused() {
        Due.says("NOT: it is UP.");
        LedgerTwice x = Due.smallBooks();
        x.line(0, 1);
        x.sheet(2);
        Due.refused(x, "up at first", () -> x.recover(), -6);
        x.crash(6000, 0);
        Due.is("down", x.recover(), 7);
        x.line(0, 1);
        Due.refused(x, "up again", () -> x.recover(), -6);
    }

    private static void byteAt() {
        Due.says("Byte i of THE JOURNAL (0 .. 255).");
        LedgerTwice x = Due.booksWithRoom(0);
        boolean above = false;
        for (int i = 0; i < 6000; i++) {
            Due.isTrue("byte " + i, x.byteAt(i) >= 0 && x.byteAt(i) <= 255);
            above |= x.byteAt(i) > 127;
        }
        Due.isTrue("some are above 127", above);
        Due.is("the first one", x.byteAt(0), 5);
        Due.is("a byte of seven bits and 128 more", x.byteAt(2), 200);
    }

    private static void byteAtUnknown() {
        Due.says("Byte i of THE JOURNAL (0 .. 255). UNKNOWN.");
        LedgerTwice x = new LedgerTwice();
        Due.is("none at all", x.byteAt(0), -2);
        x.account(1, 0, -1, false);
        Due.isTrue("the last one", x.byteAt(7) >= 0);
        for (int i : new int[] {-1, 8, 6000, Due.LEAST_INT, Due.MOST_INT}) {
            Due.is("byte " + i, x.byteAt(i), -2);
        }
        x.crash(3, 0);
        Due.is("the last that is kept", x.byteAt(2), 2);
        Due.is("cut", x.byteAt(3), -2);
        x.recover();
        Due.is("all is cut", x.byteAt(0), -2);
        LedgerTwice y = Due.booksWithRoom(0);
        Due.is("behind a full one", y.byteAt(6000), -2);
    }
}
