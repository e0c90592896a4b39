import java.math.BigInteger;
import java.util.ArrayList;
import java.util.Arrays;
import java.util.List;
import java.util.function.Consumer;
import java.util.function.ToLongFunction;

/** The edges that stand under "3 THE JOURNAL"; those of records that no call writes stand in ForgedJournalTest. */
public final class EdgesJournalTest {
    private static final long MOST = Due.MOST;

    public static void main(String[] args) {
        sixThousandBytes();
        writtenByThese();
        notWrittenByOthers();
        lengths();
        checks();
        numbersOfTags();
        numbersOfAmounts();
        sortsOfBooks();
        sortsOfEntries();
        durable();
        keptByCrash();
        laidByCrash();
        downByCrash();
        doneAnew();
        notWhole();
        anotherCheck();
        fullDoesNotMatter();
        cutThere();
        Due.end();
    }

    private static void sixThousandBytes() {
        Due.says("3 THE JOURNAL has 6000 bytes at most.");
        Consumer<LedgerTwice> nothing = x -> { };
        Consumer<LedgerTwice> line = x -> x.line(0, 1);
        Consumer<LedgerTwice> lines = x -> {
            x.line(0, 1);
            x.line(2, -1);
        };
        fits("account", 8, 0, nothing, x -> x.account(63, 3, -1, false));
        fits("account of two bytes", 10, 0, nothing, x -> x.account(9999, 3, -1, true));
        fits("shut", 6, 0, nothing, x -> x.shut(2, true));
        fits("period", 5, 0, nothing, x -> x.period(63));
        fits("period of two bytes", 6, 0, nothing, x -> x.period(64));
        fits("owner", 5, 0, nothing, x -> x.owner(1));
        fits("post", 11, 0, lines, x -> x.post(3, 3));
        fits("share", 11, 0, line, x -> x.share(2, 1, 3, 3));
        fits("back", 6, 0, nothing, x -> x.back(1, 3));
        fits("back of two bytes", 7, 0, nothing, x -> x.back(64, 3));
        fits("close", 4, 0, nothing, x -> x.close());
        fits("close with lines", 4, 4, x -> x.close(), x -> x.close());
        fits("reopen", 4, 4, x -> x.close(), x -> x.reopen());
    }

    /** It is refused with no room, and with a byte too little; it fits when there is just its room. */
    private static void fits(String call, int bytes, int prepared, Consumer<LedgerTwice> prepare,
            ToLongFunction<LedgerTwice> ask) {
        for (int left : new int[] {0, 1, bytes - 1}) {
            LedgerTwice x = Due.booksWithRoom(left + prepared);
            prepare.accept(x);
            Due.refused(x, call + ", " + left + " bytes are left", () -> ask.applyAsLong(x), -13);
        }
        LedgerTwice x = Due.booksWithRoom(bytes + prepared);
        prepare.accept(x);
        Due.isTrue(call + " fits", ask.applyAsLong(x) >= 0);
        Due.is("bytes by " + call, x.count(5), 6000);
        Due.isTrue("the last byte", x.byteAt(5999) >= 0);
        Due.is("no byte behind it", x.byteAt(6000), -2);
        Due.refused(x, "not another one", () -> x.owner(1), -13);
    }

    private static void writes(LedgerTwice x, String call, long answer, long due, String before) {
        Due.is(call, answer, due);
        Due.isTrue(call + " is written behind all", Due.journalOf(x).startsWith(before + " "));
    }

    private static void writtenByThese() {
        Due.says("All that is accepted by account(), shut(), period(), owner(), post(), back(), close(), reopen(), "
            + "share() is WRITTEN there as a RECORD, behind all");
        LedgerTwice x = Due.smallBooks();
        int records = x.count(7);
        Due.is("small books", records, 7);
        String was = Due.journalOf(x);
        writes(x, "account", x.account(1, 0, -1, false), 4, was);
        was = Due.journalOf(x);
        writes(x, "shut", x.shut(4, true), 0, was);
        was = Due.journalOf(x);
        writes(x, "period", x.period(99), 2, was);
        was = Due.journalOf(x);
        writes(x, "owner", x.owner(1), 1, was);
        x.line(0, 5);
        x.line(2, -5);
        was = Due.journalOf(x);
        writes(x, "post", x.post(3, 3), 0, was);
        was = Due.journalOf(x);
        writes(x, "back", x.back(0, 40), 1, was);
        was = Due.journalOf(x);
        writes(x, "close", x.close(), 0, was);
        was = Due.journalOf(x);
        writes(x, "reopen", x.reopen(), 0, was);
        x.line(0, 5);
        was = Due.journalOf(x);
        writes(x, "share", x.share(2, 9, 3, 3), 4, was);
        Due.is("a record each", x.count(7), records + 9);
    }

    private static void notWrittenByOthers() {
        Due.says("is WRITTEN there as a RECORD");
        LedgerTwice x = Due.smallBooks();
        String was = Due.journalOf(x);
        x.line(0, 1);
        x.drop();
        x.sync();
        x.sheet(2);
        x.part(1, 1, 1, 1, 1, 0);
        x.recover();
        x.crash(-1, 0);
        x.account(0, 0, -1, false);
        x.shut(0, false);
        x.period(60);
        x.owner(0);
        x.post(3, 3);
        x.back(0, 3);
        x.reopen();
        x.share(0, 1, 3, 3);
        Due.is("nothing is written", Due.journalOf(x), was);
        Due.is("no record", x.count(7), 7);
    }

    private static void lengths() {
        Due.says("L (a byte, how many bytes BODY has: 0 .. 255), SORT (a byte), BODY");
        LedgerTwice x = new LedgerTwice();
        for (int i = 0; i < 60; i++) {
            x.account(1 + i, i == 0 ? 2 : 3, -1, false);
        }
        x.period(9999);
        x.owner(0);
        int start = x.count(5);
        for (int i = 0; i < 8; i++) {
            x.line(59 - i, i % 2 == 0 ? MOST : -MOST);
        }
        x.post(9999, Due.LEAST_INT);
        Due.is("the longest body", x.byteAt(start), 3 + 5 + 1 + 8 * 9);
        Due.is("sort", x.byteAt(start + 1), 5);
        Due.is("bytes", x.count(5) - start, 81 + 4);
        start = x.count(5);
        x.close();
        Due.is("no body", x.byteAt(start), 0);
        Due.is("bytes", x.count(5) - start, 4);
    }

    /** CHECK, told bit by bit. */
    private static int check(List<Integer> bytes) {
        boolean[] bits = new boolean[16];
        Arrays.fill(bits, true);
        for (int b : bytes) {
            for (int i = 0; i < 8; i++) {
                bits[8 + i] ^= (b >> i & 1) == 1;
            }
            for (int i = 0; i < 8; i++) {
                boolean high = bits[15];
                System.arraycopy(bits, 0, bits, 1, 15);
                bits[0] = high;
                bits[5] ^= high;
                bits[12] ^= high;
            }
        }
        int c = 0;
        for (int i = 0; i < 16; i++) {
            c += bits[i] ? 1 << i : 0;
        }
        return c;
    }

    private static void checks() {
        Due.says("CHECK (two bytes, the higher first). CHECK: c is 65535; for each byte of L, SORT, BODY: c becomes c "
            + "by exclusive or with 256 times it; eight times: c doubled, and by exclusive or with 4129 if bit 15 was "
            + "1; of which the lowest 16 bits stay.");
        LedgerTwice x = rich();
        int at = 0;
        int records = 0;
        while (at < x.count(5)) {
            List<Integer> bytes = new ArrayList<>();
            int end = at + 2 + x.byteAt(at);
            for (; at < end; at++) {
                bytes.add(x.byteAt(at));
            }
            Due.is("higher byte", x.byteAt(at), check(bytes) / 256);
            Due.is("lower byte", x.byteAt(at + 1), check(bytes) % 256);
            at += 2;
            records++;
        }
        Due.is("whole records alone", at, x.count(5));
        Due.is("how many", records, x.count(7));
    }

    private static List<Integer> numbers(long... all) {
        List<Integer> bytes = new ArrayList<>();
        for (long v : all) {
            BigInteger z = BigInteger.valueOf(v).shiftLeft(1);
            z = v < 0 ? z.negate().subtract(BigInteger.ONE) : z;
            for (; z.bitLength() > 7; z = z.shiftRight(7)) {
                bytes.add(z.mod(BigInteger.valueOf(128)).intValue() + 128);
            }
            bytes.add(z.intValue());
        }
        return bytes;
    }

    /** The record that a call has written: its sort and its numbers. */
    private static void record(String call, LedgerTwice x, int start, int sort, long... all) {
        List<Integer> due = numbers(all);
        Due.is("bytes of " + call, x.count(5) - start, due.size() + 4);
        Due.is("length of " + call, x.byteAt(start), due.size());
        Due.is("sort of " + call, x.byteAt(start + 1), sort);
        for (int i = 0; i < due.size(); i++) {
            Due.is("byte " + i + " of " + call, x.byteAt(start + 2 + i), due.get(i));
        }
    }

    private static void numbersOfTags() {
        Due.says("In BODY stand NUMBERS: a whole number v is told as z = 2 v, if it is 0 or above, else -2 v - 1 "
            + "(without sign), by seven bits, the lowest first, a byte each, 128 more but in the last one.");
        int[] tags = {0, -1, 1, 63, -64, 64, -65, 8191, -8192, 8192, -8193, 1048575, -1048576, 1048576, -1048577,
            134217727, -134217728, 134217728, -134217729, Due.MOST_INT, Due.LEAST_INT};
        int[] bytes = {1, 1, 1, 1, 1, 2, 2, 2, 2, 3, 3, 3, 3, 4, 4, 4, 4, 5, 5, 5, 5};
        for (int i = 0; i < tags.length; i++) {
            LedgerTwice x = Due.smallBooks();
            int start = x.count(5);
            x.line(0, 1);
            x.line(2, -1);
            x.post(3, tags[i]);
            record("tag " + tags[i], x, start, 5, 3, tags[i], 2, 0, 1, 2, -1);
            Due.is("bytes of tag " + tags[i], x.count(5) - start, 10 + bytes[i]);
            x.crash(6000, 0);
            x.recover();
            Due.is("read again", x.entry(0, 1), tags[i]);
        }
    }

    private static void numbersOfAmounts() {
        Due.says("In BODY stand NUMBERS");
        for (int power = 6; power < 49; power += 7) {
            for (long amount = (1L << power) - 1; amount <= (1L << power) + 1; amount++) {
                amountIsWritten(amount);
                amountIsWritten(-amount);
            }
        }
        amountIsWritten(MOST);
        amountIsWritten(-MOST);
    }

    private static void amountIsWritten(long amount) {
        LedgerTwice x = Due.smallBooks();
        int start = x.count(5);
        Due.move(x, 3, 0, amount, 60);
        record("amount " + amount, x, start, 5, 60, 0, 2, 0, amount, 3, -amount);
        x.crash(6000, 0);
        x.recover();
        Due.is("read again", x.balance(0), amount);
    }

    private static void sortsOfBooks() {
        Due.says("SORTS and NUMBERS: 1 account: CODE, KIND, PARENT (NONE -1), 1 for a GROUP, 0. 2 shut: the ACCOUNT, "
            + "1 SHUT, 0. 3 period: LAST DAY. 4 owner: the ACCOUNT.");
        LedgerTwice x = new LedgerTwice();
        x.account(1, 4, LedgerTwice.NONE, true);
        record("account", x, 0, 1, 1, 4, -1, 1);
        int start = x.count(5);
        x.account(9999, 4, 0, false);
        record("account", x, start, 1, 9999, 4, 0, 0);
        start = x.count(5);
        x.shut(1, true);
        record("shut", x, start, 2, 1, 1);
        start = x.count(5);
        x.shut(1, false);
        record("not shut", x, start, 2, 1, 0);
        start = x.count(5);
        x.period(0);
        record("period", x, start, 3, 0);
        start = x.count(5);
        x.period(9999);
        record("period", x, start, 3, 9999);
        x.account(500, 2, -1, false);
        start = x.count(5);
        x.owner(2);
        record("owner", x, start, 4, 2);
        start = x.count(5);
        x.owner(2);
        record("the same owner", x, start, 4, 2);
    }

    private static void sortsOfEntries() {
        Due.says("5 post (share(), too): DAY, TAG, how many LINES, then of each ACCOUNT, AMOUNT. 6 back: the ENTRY, "
            + "DAY. 7 close. 8 reopen: no NUMBERS.");
        LedgerTwice x = Due.smallBooks();
        int start = x.count(5);
        for (int i = 0; i < 8; i++) {
            x.line(i % 4, i < 4 ? MOST : -MOST);
        }
        x.post(0, -7);
        record("post", x, start, 5, 0, -7, 8, 0, MOST, 1, MOST, 2, MOST, 3, MOST, 0, -MOST, 1, -MOST, 2, -MOST,
            3, -MOST);
        start = x.count(5);
        x.line(0, 1);
        x.line(1, 1000);
        x.line(3, 1);
        x.share(2, -2, 60, 9);
        record("share, without the lines of nothing", x, start, 5, 60, 9, 2, 2, 2, 1, -2);
        start = x.count(5);
        x.back(0, 31);
        record("back", x, start, 6, 0, 31);
        start = x.count(5);
        x.close();
        record("close", x, start, 7);
        start = x.count(5);
        x.reopen();
        record("reopen", x, start, 8);
    }

    /** All sorts of records, with closings that have lines and such that have none. */
    private static LedgerTwice rich() {
        LedgerTwice x = Due.smallBooks();
        x.account(500, 2, -1, true);
        x.account(510, 2, 4, false);
        Due.move(x, 2, 0, MOST, 3);
        Due.move(x, 0, 3, 99, 30);
        x.line(0, 3);
        x.line(3, 4);
        x.share(2, -1000, 31, Due.LEAST_INT);
        x.back(1, 40);
        x.shut(0, true);
        x.shut(3, true);
        x.shut(3, false);
        x.close();
        x.owner(5);
        x.close();
        x.reopen();
        x.reopen();
        x.close();
        x.period(9999);
        return x;
    }

    private static void durable() {
        Due.says("The first DURABLE bytes are kept whatever comes.");
        LedgerTwice x = rich();
        x.sync();
        int kept = x.count(5);
        String bytes = Due.journalOf(x);
        x.owner(1);
        Due.is("crash", x.crash(0, 255), kept);
        Due.is("as they were", Due.journalOf(x), bytes);
        Due.is("once more", x.crash(6000, 255), kept);
        Due.is("as they were", Due.journalOf(x), bytes);
        Due.is("recover", x.recover(), x.count(7));
        Due.is("as they were", Due.journalOf(x), bytes);
        Due.is("durable", x.count(6), kept);
        x.owner(1);
        Due.is("all that is durable, and one byte", x.crash(1, 1), kept + 1);
        x.recover();
        Due.is("as they were", Due.journalOf(x), bytes);
    }

    private static void keptByCrash() {
        Due.says("crash(): of the others only so many are kept as it says");
        for (int n : new int[] {0, 1, 4, 5, 8, 9, 10, Due.MOST_INT}) {
            LedgerTwice x = Due.smallBooks();
            x.sync();
            int durable = x.count(5);
            x.close();
            x.owner(1);
            String all = Due.journalOf(x);
            int kept = durable + Math.min(n, 9);
            Due.is("crash(" + n + ", 0)", x.crash(n, 0), kept);
            Due.is("count", x.count(5), kept);
            Due.isTrue("as they were", (all + " ").startsWith(Due.journalOf(x) + " "));
            Due.is("none behind", x.byteAt(kept), -2);
            Due.is("durable", x.count(6), durable);
            Due.is("recover", x.recover(), n < 4 ? 7 : n < 9 ? 8 : 9);
        }
    }

    private static void laidByCrash() {
        Due.says("upon the last of those, if there is one, a byte is laid by exclusive or");
        for (int by : new int[] {0, 1, 127, 128, 255}) {
            LedgerTwice x = Due.smallBooks();
            int all = x.count(5);
            int last = x.byteAt(all - 1);
            int before = x.byteAt(all - 2);
            x.crash(all, by);
            Due.is("laid upon the last", x.byteAt(all - 1), last ^ by);
            Due.is("not upon that before it", x.byteAt(all - 2), before);
            x.crash(all + 1, by);
            Due.is("twice is never", x.byteAt(all - 1), last);
            Due.is("recover", x.recover(), 7);
        }
        LedgerTwice x = Due.smallBooks();
        x.sync();
        String bytes = Due.journalOf(x);
        x.crash(1, 255);
        Due.is("there is none, as all are durable", Due.journalOf(x), bytes);
        LedgerTwice y = Due.smallBooks();
        y.sync();
        y.close();
        y.crash(0, 255);
        Due.is("there is none, as none is kept", Due.journalOf(y), bytes);
        LedgerTwice z = new LedgerTwice();
        Due.is("there is none at all", z.crash(5, 255), 0);
    }

    private static void downByCrash() {
        Due.says("then it is DOWN.");
        LedgerTwice x = new LedgerTwice();
        Due.is("up", x.count(10), 1);
        x.crash(0, 0);
        Due.is("down, with nothing lost", x.count(10), 0);
        x.crash(0, 0);
        Due.is("down still", x.count(10), 0);
        x.recover();
        Due.is("up", x.count(10), 1);
    }

    private static void doneAnew() {
        Due.says("recover(): the books are empty; then RECORDS are DONE anew from the first byte on, as the calls did");
        LedgerTwice x = rich();
        String before = Due.booksOf(x);
        String bytes = Due.journalOf(x);
        int records = x.count(7);
        for (int i = 0; i < 3; i++) {
            x.crash(6000, 0);
            Due.is("recover", x.recover(), records);
            Due.is("as they were", Due.booksOf(x), before);
            Due.is("bytes", Due.journalOf(x), bytes);
        }
        LedgerTwice y = rich();
        y.crash(0, 0);
        Due.is("nothing is left", y.recover(), 0);
        Due.is("empty books", Due.told(y), Due.told(new LedgerTwice()));
        // What is made in their place must have nothing of what was there before.
        LedgerTwice fresh = Due.smallBooks();
        y.account(100, 0, -1, false);
        y.account(200, 2, -1, false);
        y.account(300, 3, -1, false);
        y.account(400, 4, -1, false);
        y.period(30);
        y.period(60);
        y.owner(1);
        Due.is("as new ones", Due.booksOf(y), Due.booksOf(fresh));
        Due.move(y, 2, 0, 5, 3);
        Due.move(fresh, 2, 0, 5, 3);
        Due.is("as new ones", Due.booksOf(y), Due.booksOf(fresh));
    }

    /** Where the records end, 0 first. */
    private static List<Integer> ends(LedgerTwice x) {
        List<Integer> ends = new ArrayList<>();
        for (int at = 0; at < x.count(5); at += x.byteAt(at) + 4) {
            ends.add(at);
        }
        ends.add(x.count(5));
        return ends;
    }

    private static void notWhole() {
        Due.says("it ends ahead of the first one that is not whole");
        List<Integer> ends = ends(rich());
        for (int r = 1; r < ends.size(); r++) {
            for (int n = ends.get(r - 1); n < ends.get(r); n++) {
                LedgerTwice x = rich();
                x.crash(n, 0);
                Due.is("cut behind " + n, x.recover(), r - 1);
                Due.is("bytes", x.count(5), ends.get(r - 1));
            }
        }
    }

    private static void anotherCheck() {
        Due.says("has another CHECK");
        List<Integer> ends = ends(rich());
        for (int r = 1; r < ends.size(); r++) {
            LedgerTwice x = rich();
            x.crash(ends.get(r), 1 << r % 8);
            Due.is("the last bit is another", x.recover(), r - 1);
            Due.is("bytes", x.count(5), ends.get(r - 1));
        }
        for (int by = 1; by < 256; by++) {
            LedgerTwice x = Due.smallBooks();
            x.crash(6000, by);
            Due.is("by " + by, x.recover(), 6);
            Due.is("there is no owner", x.count(8), -1);
        }
    }

    private static void fullDoesNotMatter() {
        Due.says("(FULL of THE JOURNAL does not matter then)");
        LedgerTwice x = Due.booksWithRoom(4);
        x.close();
        Due.is("full", x.count(5), 6000);
        String before = Due.booksOf(x);
        int records = x.count(7);
        x.crash(6000, 0);
        Due.is("all are done", x.recover(), records);
        Due.is("as they were", Due.booksOf(x), before);
        Due.is("full", x.count(5), 6000);
        Due.refused(x, "still full", () -> x.reopen(), -13);
        LedgerTwice y = Due.booksWithRoom(0);
        int bytes = y.count(5);
        y.crash(5999, 0);
        y.recover();
        Due.isTrue("the last one is lost", y.count(5) < bytes);
        Due.is("and may be written anew", y.owner(1), 1);
        Due.is("full", y.count(5), 6000);
    }

    private static void cutThere() {
        Due.says("THE JOURNAL is cut there; all of it is DURABLE; it is UP.");
        LedgerTwice x = Due.smallBooks();
        int all = x.count(5);
        x.crash(all - 1, 0);
        Due.is("down, nothing durable", x.count(6), 0);
        Due.is("recover", x.recover(), 6);
        Due.is("cut", x.count(5), all - 5);
        Due.is("no byte behind", x.byteAt(all - 5), -2);
        Due.is("durable", x.count(6), all - 5);
        Due.is("up", x.count(10), 1);
        Due.is("all is durable", x.sync(), 0);
        Due.is("written behind", x.owner(1), -1);
        x.crash(0, 0);
        Due.is("but that was not durable", x.recover(), 6);
        LedgerTwice y = new LedgerTwice();
        y.account(1, 0, -1, false);
        y.crash(1, 0);
        Due.is("cut ahead of the first", y.recover(), 0);
        Due.is("no byte", y.count(5), 0);
        Due.is("none durable", y.count(6), 0);
        Due.is("up", y.count(10), 1);
        Due.is("the first one anew", y.account(1, 0, -1, false), 0);
    }
}
