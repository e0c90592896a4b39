import java.io.ByteArrayOutputStream;

/**
 * Promise 15 for records that no call writes: numbers that are none, other sorts, refused ones. Through the calls
 * alone no such record with a right check can come, so these bytes are laid into the journal by reflection.
 */
public final class ForgedJournalTest {
    public static void main(String[] args) throws Exception {
        good();
        frames();
        numbers();
        numbersOfTenBytes();
        beyondAnInt();
        beyondAnIntInLines();
        flags();
        lines();
        bodyLengths();
        refused();
        refusedAccounts();
        refusedEntries();
        refusedAsFull();
        refusedAsOver();
        Due.end();
    }

    /** Small books with one entry, then these bytes behind the journal, then recovered: how many records more. */
    private static int recovered(byte[]... records) throws Exception {
        LedgerTwice x = Due.smallBooks();
        Due.move(x, 2, 0, 5, 3);
        return recoveredBehind(x, records);
    }

    private static int recoveredBehind(LedgerTwice x, byte[]... records) throws Exception {
        int before = x.count(7);
        String first = Due.linesOf(x, 0);
        int start = x.count(5);
        Object journal = Inside.get(x, "journal");
        Object bytes = Inside.get(journal, "bytes");
        int[] cells = new int[6000];
        System.arraycopy((int[]) Inside.get(bytes, "cells"), 0, cells, 0, start);
        int size = start;
        for (byte[] record : records) {
            for (byte b : record) {
                cells[size++] = b & 255;
            }
        }
        Inside.set(bytes, "cells", cells);
        Inside.set(journal, "size", size);
        x.crash(6000, 0);
        int done = x.recover();
        int kept = start;
        for (int i = 0; i < done - before; i++) {
            kept += records[i].length;
        }
        Due.is("the journal is cut", x.count(5), kept);
        Due.is("and durable", x.count(6), kept);
        String books = Due.booksOf(x);
        x.crash(0, 0);
        Due.is("what is left is good", x.recover(), done);
        Due.is("and as it was", Due.booksOf(x), books);
        Due.is("the lines are as they were", Due.linesOf(x, 0), first);
        return done - before;
    }

    private static byte[] record(int sort, int... body) {
        return framed(body.length, sort, body);
    }

    private static byte[] framed(int length, int sort, int... body) {
        ByteArrayOutputStream out = new ByteArrayOutputStream();
        out.write(length);
        out.write(sort);
        for (int b : body) {
            out.write(b);
        }
        int c = 65535;
        for (byte b : out.toByteArray()) {
            c ^= (b & 255) * 256;
            for (int i = 0; i < 8; i++) {
                c = (c & 32768) != 0 ? c * 2 ^ 4129 : c * 2;
            }
            c &= 65535;
        }
        out.write(c / 256);
        out.write(c % 256);
        return out.toByteArray();
    }

    private static void good() throws Exception {
        Due.is("account", recovered(record(1, 2, 0, 1, 0)), 1);
        Due.is("account, a group", recovered(record(1, 2, 0, 1, 2)), 1);
        Due.is("shut", recovered(record(2, 0, 2)), 1);
        Due.is("period", recovered(record(3, 160, 1)), 1);
        Due.is("owner", recovered(record(4, 2)), 1);
        Due.is("post", recovered(record(5, 6, 6, 4, 0, 2, 4, 1)), 1);
        Due.is("back", recovered(record(6, 0, 80)), 1);
        Due.is("close and reopen", recovered(record(7), record(8)), 2);
        Due.is("a number with more bytes than it needs", recovered(record(4, 130, 128, 128, 0)), 1);
        Due.is("ten bytes", recovered(record(4, 130, 128, 128, 128, 128, 128, 128, 128, 128, 0)), 1);
    }

    private static void frames() throws Exception {
        Due.says("it ends ahead of the first one that is not whole, has another CHECK or SORT");
        Due.is("sort 0", recovered(record(0)), 0);
        Due.is("sort 9", recovered(record(9)), 0);
        Due.is("sort 255", recovered(record(255)), 0);
        Due.is("ends ahead of the first", recovered(record(7), record(9), record(8)), 1);
        byte[] wrong = record(7);
        wrong[2] ^= 1;
        Due.is("high byte of the check", recovered(wrong), 0);
        wrong = record(7);
        wrong[3] ^= 1;
        Due.is("low byte of the check", recovered(wrong), 0);
        Due.is("not whole", recovered(new byte[] {(byte) 255, 7, 0, 0}), 0);
        Due.is("three bytes", recovered(new byte[] {0, 7, 0}), 0);
        Due.is("a body of 255 bytes", recovered(record(7, new int[255])), 0);
    }

    private static void numbers() throws Exception {
        Due.says("NUMBERS that are none (more than 10 bytes, of which the last one is above 1;");
        Due.is("ten bytes", recovered(record(4, 130, 128, 128, 128, 128, 128, 128, 128, 128, 0)), 1);
        Due.is("eleven bytes", recovered(record(4, 130, 128, 128, 128, 128, 128, 128, 128, 128, 128, 0)), 0);
        Due.is("eleven bytes, the last 1", recovered(record(4, 130, 128, 128, 128, 128, 128, 128, 128, 128, 128, 1)), 0);
        Due.is("eleven, the tenth 129", recovered(record(4, 130, 128, 128, 128, 128, 128, 128, 128, 128, 129, 0)), 0);
        Due.is("the tenth is 2", recovered(record(4, 130, 128, 128, 128, 128, 128, 128, 128, 128, 2)), 0);
        Due.is("the tenth is 127", recovered(record(4, 130, 128, 128, 128, 128, 128, 128, 128, 128, 127)), 0);
        Due.is("the tenth is 1", recovered(record(4, 130, 128, 128, 128, 128, 128, 128, 128, 128, 1)), 0);
        Due.is("no end", recovered(record(4, 130)), 0);
        Due.is("ten bytes without an end", recovered(record(4, 130, 128, 128, 128, 128, 128, 128, 128, 128, 128)), 0);
    }

    /** Amounts of ten bytes are numbers, but too great; two of the least long come to 0 if they are cut. */
    private static void numbersOfTenBytes() throws Exception {
        Due.says("NUMBERS that are none (more than 10 bytes, of which the last one is above 1;");
        Due.is("an amount of ten bytes", recovered(record(5, 6, 0, 4,
            0, 130, 128, 128, 128, 128, 128, 128, 128, 128, 0, 4, 129, 128, 128, 128, 128, 128, 128, 128, 128, 0)), 1);
        Due.is("an amount of which the tenth is 2", recovered(record(5, 6, 0, 4,
            0, 130, 128, 128, 128, 128, 128, 128, 128, 128, 2, 4, 129, 128, 128, 128, 128, 128, 128, 128, 128, 2)), 0);
        Due.is("the least longs", recovered(record(5, 6, 0, 4,
            0, 255, 255, 255, 255, 255, 255, 255, 255, 255, 1,
            4, 255, 255, 255, 255, 255, 255, 255, 255, 255, 1)), 0);
        Due.is("the greatest long, and less it", recovered(record(5, 6, 0, 4,
            0, 254, 255, 255, 255, 255, 255, 255, 255, 255, 1,
            4, 253, 255, 255, 255, 255, 255, 255, 255, 255, 1)), 0);
    }

    /** In each place a number that would be right if it were cut to an int. */
    private static void beyondAnInt() throws Exception {
        Due.says("beyond an int where no AMOUNT stands;");
        Due.is("code", recovered(record(1, 130, 128, 128, 128, 32, 0, 1, 0)), 0);
        Due.is("kind", recovered(record(1, 2, 128, 128, 128, 128, 32, 1, 0)), 0);
        Due.is("parent", recovered(record(1, 2, 0, 129, 128, 128, 128, 32, 0)), 0);
        Due.is("parent that is -1 when cut", recovered(record(1, 2, 0, 254, 255, 255, 255, 31, 0)), 0);
        Due.is("group", recovered(record(1, 2, 0, 1, 130, 128, 128, 128, 32)), 0);
        Due.is("no group", recovered(record(1, 2, 0, 1, 128, 128, 128, 128, 32)), 0);
        Due.is("shut account", recovered(record(2, 128, 128, 128, 128, 32, 2)), 0);
        Due.is("shut", recovered(record(2, 0, 130, 128, 128, 128, 32)), 0);
        Due.is("last day", recovered(record(3, 160, 129, 128, 128, 32)), 0);
        Due.is("owner", recovered(record(4, 130, 128, 128, 128, 32)), 0);
        Due.is("back's entry", recovered(record(6, 128, 128, 128, 128, 32, 80)), 0);
        Due.is("back's day", recovered(record(6, 0, 208, 128, 128, 128, 32)), 0);
        Due.is("a code that is no int at all", recovered(record(1,
            130, 128, 128, 128, 128, 128, 128, 128, 128, 1, 0, 1, 0)), 0);
    }

    private static void beyondAnIntInLines() throws Exception {
        Due.says("beyond an int where no AMOUNT stands;");
        Due.is("greatest int as a tag", recovered(record(5, 6, 254, 255, 255, 255, 15, 4, 0, 2, 4, 1)), 1);
        Due.is("least int as a tag", recovered(record(5, 6, 255, 255, 255, 255, 15, 4, 0, 2, 4, 1)), 1);
        Due.is("one more than an int", recovered(record(5, 6, 128, 128, 128, 128, 16, 4, 0, 2, 4, 1)), 0);
        Due.is("one less than an int", recovered(record(5, 6, 129, 128, 128, 128, 16, 4, 0, 2, 4, 1)), 0);
        Due.is("an amount may be", recovered(record(5, 6, 0, 4,
            0, 128, 128, 128, 128, 32, 4, 255, 255, 255, 255, 31)), 1);
        Due.is("a day", recovered(record(5, 134, 128, 128, 128, 32, 0, 4, 0, 2, 4, 1)), 0);
        Due.is("a leaf", recovered(record(5, 6, 0, 4, 128, 128, 128, 128, 32, 2, 4, 1)), 0);
        Due.is("the last leaf", recovered(record(5, 6, 0, 4, 0, 2, 132, 128, 128, 128, 32, 1)), 0);
        Due.is("how many", recovered(record(5, 6, 0, 132, 128, 128, 128, 32, 0, 2, 4, 1)), 0);
    }

    private static void flags() throws Exception {
        Due.says("another one in place of 1, 0;");
        Due.is("a group", recovered(record(1, 2, 0, 1, 2)), 1);
        Due.is("a leaf", recovered(record(1, 2, 0, 1, 0)), 1);
        Due.is("a group by 2", recovered(record(1, 2, 0, 1, 4)), 0);
        Due.is("a group by -1", recovered(record(1, 2, 0, 1, 1)), 0);
        Due.is("shut", recovered(record(2, 0, 2)), 1);
        Due.is("not shut any more", recovered(record(2, 0, 2), record(2, 0, 0)), 2);
        Due.is("shut by 2", recovered(record(2, 0, 4)), 0);
        Due.is("shut by -1", recovered(record(2, 0, 1)), 0);
        Due.is("not shut by 2", recovered(record(2, 0, 2), record(2, 0, 4)), 1);
        Due.is("shut by 2 to the 32nd", recovered(record(2, 0, 128, 128, 128, 128, 32)), 0);
    }

    private static void lines() throws Exception {
        Due.says("more than 8 LINES, or less than 0;");
        Due.is("eight lines", recovered(record(5, 6, 0, 16, 0, 2, 0, 1, 0, 2, 0, 1, 0, 2, 0, 1, 0, 2, 0, 1)), 1);
        Due.is("nine lines", recovered(record(5, 6, 0, 18, 0, 2, 0, 1, 0, 2, 0, 1, 0, 2, 0, 1, 0, 2, 0, 3, 0, 2)), 0);
        Due.is("ten lines", recovered(record(5, 6, 0, 20,
            0, 2, 0, 1, 0, 2, 0, 1, 0, 2, 0, 1, 0, 2, 0, 1, 0, 2, 0, 1)), 0);
        Due.is("the most of an int", recovered(record(5, 6, 0, 254, 255, 255, 255, 15, 0, 2, 4, 1)), 0);
        Due.is("-1 lines", recovered(record(5, 6, 0, 1)), 0);
        Due.is("-2 lines", recovered(record(5, 6, 0, 3, 0, 2, 4, 1)), 0);
        Due.is("the least of an int", recovered(record(5, 6, 0, 255, 255, 255, 255, 15)), 0);
        Due.is("no lines are few", recovered(record(5, 6, 0, 0)), 0);
        Due.is("one line is few", recovered(record(5, 6, 0, 2, 0, 2)), 0);
    }

    private static void bodyLengths() throws Exception {
        Due.says("a byte too few or too many in BODY)");
        Due.is("account, a byte few", recovered(record(1, 2, 0, 1)), 0);
        Due.is("account, a byte many", recovered(record(1, 2, 0, 1, 0, 0)), 0);
        Due.is("shut, a byte few", recovered(record(2, 0)), 0);
        Due.is("shut, a byte many", recovered(record(2, 0, 2, 0)), 0);
        Due.is("period, a byte few", recovered(record(3)), 0);
        Due.is("period, a byte many", recovered(record(3, 160, 1, 0)), 0);
        Due.is("owner, a byte few", recovered(record(4)), 0);
        Due.is("owner, a byte many", recovered(record(4, 2, 0)), 0);
        Due.is("post, a byte few", recovered(record(5, 6, 6, 4, 0, 2, 4)), 0);
        Due.is("post, a byte many", recovered(record(5, 6, 6, 4, 0, 2, 4, 1, 0)), 0);
        Due.is("back, a byte few", recovered(record(6, 0)), 0);
        Due.is("back, a byte many", recovered(record(6, 0, 80, 0)), 0);
        Due.is("close, a byte many", recovered(record(7, 0)), 0);
        Due.is("reopen, a byte many", recovered(record(7), record(8, 0)), 1);
    }

    private static void refused() throws Exception {
        Due.says("or that is refused (FULL of THE JOURNAL does not matter then)");
        Due.is("open already", recovered(record(2, 0, 0)), 0);
        Due.is("shut already", recovered(record(2, 0, 2), record(2, 0, 2)), 1);
        Due.is("no account to shut", recovered(record(2, 8, 2)), 0);
        Due.is("account -1 to shut", recovered(record(2, 1, 2)), 0);
        Due.is("a group to shut", recovered(record(1, 2, 0, 1, 2), record(2, 8, 2)), 1);
        Due.is("no such period", recovered(record(3, 60)), 0);
        Due.is("the last day again", recovered(record(3, 120)), 0);
        Due.is("the day behind", recovered(record(3, 122)), 1);
        Due.is("a period below 0", recovered(record(3, 1)), 0);
        Due.is("the last day of all", recovered(record(3, 158, 156, 1)), 1);
        Due.is("a period beyond all", recovered(record(3, 160, 156, 1)), 0);
        Due.is("no leaf of own", recovered(record(4, 0)), 0);
        Due.is("no such owner", recovered(record(4, 8)), 0);
        Due.is("owner -1", recovered(record(4, 1)), 0);
        Due.is("nothing to reopen", recovered(record(8)), 0);
        Due.is("nothing to reopen any more", recovered(record(7), record(8), record(8)), 2);
        Due.is("nothing to close", recovered(record(7), record(7), record(7)), 2);
    }

    private static void refusedAccounts() throws Exception {
        Due.says("or that is refused");
        Due.is("code 0", recovered(record(1, 0, 0, 1, 0)), 0);
        Due.is("code -1", recovered(record(1, 1, 0, 1, 0)), 0);
        Due.is("code 9999", recovered(record(1, 158, 156, 1, 0, 1, 0)), 1);
        Due.is("code 10000", recovered(record(1, 160, 156, 1, 0, 1, 0)), 0);
        Due.is("kind 5", recovered(record(1, 2, 10, 1, 0)), 0);
        Due.is("kind -1", recovered(record(1, 2, 1, 1, 0)), 0);
        Due.is("code twice", recovered(record(1, 200, 1, 0, 1, 0)), 0);
        Due.is("parent a leaf", recovered(record(1, 2, 0, 0, 0)), 0);
        Due.is("parent to come", recovered(record(1, 2, 0, 8, 0)), 0);
        Due.is("parent -2", recovered(record(1, 2, 0, 3, 0)), 0);
        Due.is("parent of another kind", recovered(record(1, 2, 2, 1, 2), record(1, 4, 0, 8, 0)), 1);
        Due.is("depth 6", recovered(record(1, 2, 0, 1, 2), record(1, 4, 0, 8, 2), record(1, 6, 0, 10, 2),
            record(1, 8, 0, 12, 2), record(1, 10, 0, 14, 2), record(1, 12, 0, 16, 2), record(1, 14, 0, 18, 0)), 6);
    }

    private static void refusedEntries() throws Exception {
        Due.says("or that is refused");
        Due.is("unequal", recovered(record(5, 6, 0, 4, 0, 2, 4, 2)), 0);
        Due.is("no day", recovered(record(5, 160, 1, 0, 4, 0, 2, 4, 1)), 0);
        Due.is("day -1", recovered(record(5, 1, 0, 4, 0, 2, 4, 1)), 0);
        Due.is("a closed day", recovered(record(7), record(5, 60, 0, 4, 0, 2, 4, 1)), 1);
        Due.is("a shut leaf", recovered(record(2, 4, 2), record(5, 60, 0, 4, 0, 2, 4, 1)), 1);
        Due.is("an amount of 0", recovered(record(5, 6, 0, 4, 0, 0, 4, 0)), 0);
        Due.is("an unknown leaf", recovered(record(5, 6, 0, 4, 0, 2, 8, 1)), 0);
        Due.is("the last leaf is unknown", recovered(record(5, 6, 0, 6, 0, 2, 4, 1, 8, 2)), 0);
        Due.is("the last amount is 0", recovered(record(5, 6, 0, 6, 0, 2, 4, 1, 0, 0)), 0);
        Due.is("leaf -1", recovered(record(5, 6, 0, 4, 0, 2, 1, 1)), 0);
        Due.is("a group", recovered(record(1, 2, 0, 1, 2), record(5, 6, 0, 4, 0, 2, 8, 1)), 1);
        Due.is("the most", recovered(record(5, 6, 0, 4,
            0, 128, 128, 180, 204, 212, 223, 198, 3, 4, 255, 255, 179, 204, 212, 223, 198, 3)), 1);
        Due.is("an amount beyond the most", recovered(record(5, 6, 0, 4,
            0, 130, 128, 180, 204, 212, 223, 198, 3, 4, 129, 128, 180, 204, 212, 223, 198, 3)), 0);
        Due.is("back of none", recovered(record(6, 2, 80)), 0);
        Due.is("back of -1", recovered(record(6, 1, 80)), 0);
        Due.is("back on no day", recovered(record(6, 0, 122)), 0);
        Due.is("back twice", recovered(record(6, 0, 80), record(6, 0, 80)), 1);
        Due.is("back of a back", recovered(record(6, 0, 80), record(6, 2, 80)), 1);
        Due.is("back of a closing", recovered(record(7), record(6, 2, 80)), 1);
    }

    private static void refusedAsFull() throws Exception {
        Due.says("or that is refused (FULL of THE JOURNAL does not matter then)");
        LedgerTwice accounts = Due.smallBooks();
        Due.move(accounts, 2, 0, 5, 3);
        for (int i = 4; i < 59; i++) {
            accounts.account(1 + i, 0, -1, false);
        }
        Due.is("the 61st account", recoveredBehind(accounts, record(1, 2, 0, 1, 0), record(1, 4, 0, 1, 0)), 1);
        LedgerTwice periods = Due.smallBooks();
        Due.move(periods, 2, 0, 5, 3);
        for (int i = 2; i < 23; i++) {
            periods.period(70 + i);
        }
        Due.is("the 25th period", recoveredBehind(periods, record(3, 188, 1), record(3, 190, 1)), 1);
        byte[] post = record(5, 62, 0, 4, 0, 2, 4, 1);
        Due.is("the 401st entry", recoveredBehind(Due.booksOfEntries(399), post, post), 1);
        Due.is("a back", recoveredBehind(Due.booksOfEntries(399), post, record(6, 0, 80)), 1);
        Due.is("a closing", recoveredBehind(Due.booksOfEntries(399), post, record(7)), 1);
        Due.is("an opening", recoveredBehind(Due.booksOfEntries(400), record(8)), 0);
        Due.is("one that has no lines", recoveredBehind(Due.booksOfEntries(400), record(7), record(8)), 2);
    }

    private static void refusedAsOver() throws Exception {
        Due.says("or that is refused");
        LedgerTwice x = Due.smallBooks();
        for (int i = 0; i < 10; i++) {
            Due.move(x, 2, 0, Due.MOST, 3);
        }
        Due.is("beyond the most", recoveredBehind(x, record(5, 6, 0, 4, 0, 2, 6, 1)), 0);
        Due.is("less, and again to the most, and beyond", recoveredBehind(x, record(5, 6, 0, 4, 0, 1, 6, 2),
            record(5, 6, 0, 4, 0, 2, 6, 1), record(5, 6, 0, 4, 0, 2, 6, 1)), 2);
        Due.is("a closing to the least", recoveredBehind(nearTheLeast(0), record(7)), 1);
        Due.is("a closing beyond it", recoveredBehind(nearTheLeast(1), record(7)), 0);
    }

    /** Its closing of period 0 takes the most of an amount from the owner, who has nine of them less, and this. */
    private static LedgerTwice nearTheLeast(long less) {
        LedgerTwice x = Due.smallBooks();
        Due.move(x, 3, 0, Due.MOST, 3);
        for (int i = 0; i < 9; i++) {
            Due.move(x, 1, 2, Due.MOST, 33);
        }
        if (less > 0) {
            Due.move(x, 1, 2, less, 33);
        }
        return x;
    }
}
