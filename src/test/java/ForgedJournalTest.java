import java.io.ByteArrayOutputStream;
import java.lang.reflect.Field;

/**
 * Promise 15 for records that no call writes: numbers that are none, other sorts, refused ones. Through the calls
 * alone no such record with a right check can come, so these bytes are laid into the journal by reflection.
 */
public final class ForgedJournalTest {
    public static void main(String[] args) throws Exception {
        good();
        frames();
        numbers();
        flagsAndLines();
        bodyLengths();
        refused();
        Due.end();
    }

    private static Object get(Object of, String name) throws Exception {
        Field field = of.getClass().getDeclaredField(name);
        field.setAccessible(true);
        return field.get(of);
    }

    private static void set(Object of, String name, int v) throws Exception {
        Field field = of.getClass().getDeclaredField(name);
        field.setAccessible(true);
        field.setInt(of, v);
    }

    /** Small books with one entry, then these bytes behind the journal, then recovered: how many records more. */
    private static int recovered(byte[]... records) throws Exception {
        LedgerTwice x = Due.smallBooks();
        Due.move(x, 2, 0, 5, 3);
        int before = x.count(7);
        int start = x.count(5);
        Object journal = get(x, "journal");
        Object bytes = get(journal, "bytes");
        set(journal, "size", 0);
        int[] cells = new int[6000];
        System.arraycopy((int[]) get(bytes, "cells"), 0, cells, 0, start);
        int size = start;
        for (byte[] record : records) {
            for (byte b : record) {
                cells[size++] = b & 255;
            }
        }
        Field field = bytes.getClass().getDeclaredField("cells");
        field.setAccessible(true);
        field.set(bytes, cells);
        set(journal, "size", size);
        x.crash(6000, 0);
        int done = x.recover();
        int kept = start;
        for (int i = 0; i < done - before; i++) {
            kept += records[i].length;
        }
        Due.is("the journal is cut", x.count(5), kept);
        Due.is("and durable", x.count(6), kept);
        x.crash(0, 0);
        Due.is("what is left is good", x.recover(), done);
        Due.is("the lines are as they were", Due.linesOf(x, 0), "0:5 2:-5");
        return done - before;
    }

    private static byte[] record(int sort, int... body) {
        return framed(body.length, sort, body);
    }

    private static byte[] framed(int length, int sort, int... body) {
        ByteArrayOutputStream out = new ByteArrayOutputStream();
        out.write(length);
        out.write(sort);
        for (int b : body) {
            out.write(b);
        }
        int c = 65535;
        for (byte b : out.toByteArray()) {
            c ^= (b & 255) * 256;
            for (int i = 0; i < 8; i++) {
                c = (c & 32768) != 0 ? c * 2 ^ 4129 : c * 2;
            }
            c &= 65535;
        }
        out.write(c / 256);
        out.write(c % 256);
        return out.toByteArray();
    }

    private static void good() throws Exception {
        Due.is("account", recovered(record(1, 2, 0, 1, 0)), 1);
        Due.is("account, a group", recovered(record(1, 2, 0, 1, 2)), 1);
        Due.is("shut", recovered(record(2, 0, 2)), 1);
        Due.is("period", recovered(record(3, 160, 1)), 1);
        Due.is("owner", recovered(record(4, 2)), 1);
        Due.is("post", recovered(record(5, 6, 6, 4, 0, 2, 4, 1)), 1);
        Due.is("back", recovered(record(6, 0, 80)), 1);
        Due.is("close and reopen", recovered(record(7), record(8)), 2);
        Due.is("a number with more bytes than it needs", recovered(record(4, 130, 128, 128, 0)), 1);
        Due.is("ten bytes", recovered(record(4, 130, 128, 128, 128, 128, 128, 128, 128, 128, 0)), 1);
    }

    private static void frames() throws Exception {
        Due.is("sort 0", recovered(record(0)), 0);
        Due.is("sort 9", recovered(record(9)), 0);
        Due.is("sort 255", recovered(record(255)), 0);
        Due.is("ends ahead of the first", recovered(record(7), record(9), record(8)), 1);
        byte[] wrong = record(7);
        wrong[2] ^= 1;
        Due.is("high byte of the check", recovered(wrong), 0);
        wrong = record(7);
        wrong[3] ^= 1;
        Due.is("low byte of the check", recovered(wrong), 0);
        Due.is("not whole", recovered(new byte[] {(byte) 255, 7, 0, 0}), 0);
        Due.is("three bytes", recovered(new byte[] {0, 7, 0}), 0);
        Due.is("a body of 255 bytes", recovered(record(7, new int[255])), 0);
    }

    private static void numbers() throws Exception {
        Due.is("eleven bytes", recovered(record(4, 130, 128, 128, 128, 128, 128, 128, 128, 128, 128, 0)), 0);
        Due.is("the tenth is 2", recovered(record(4, 130, 128, 128, 128, 128, 128, 128, 128, 128, 2)), 0);
        Due.is("the tenth is 1", recovered(record(4, 130, 128, 128, 128, 128, 128, 128, 128, 128, 1)), 0);
        Due.is("no end", recovered(record(4, 130)), 0);
        // 4294967296 + 1 and its like would be account 1 if they were cut to an int.
        Due.is("beyond an int", recovered(record(4, 130, 128, 128, 128, 32)), 0);
        Due.is("greatest int as a tag", recovered(record(5, 6, 254, 255, 255, 255, 15, 4, 0, 2, 4, 1)), 1);
        Due.is("least int as a tag", recovered(record(5, 6, 255, 255, 255, 255, 15, 4, 0, 2, 4, 1)), 1);
        Due.is("one more than an int", recovered(record(5, 6, 128, 128, 128, 128, 16, 4, 0, 2, 4, 1)), 0);
        Due.is("one less than an int", recovered(record(5, 6, 129, 128, 128, 128, 16, 4, 0, 2, 4, 1)), 0);
        Due.is("an amount may be", recovered(record(5, 6, 0, 4,
            0, 128, 128, 128, 128, 32, 4, 255, 255, 255, 255, 31)), 1);
        Due.is("a day beyond an int", recovered(record(5, 134, 128, 128, 128, 32, 0, 4, 0, 2, 4, 1)), 0);
        Due.is("a leaf beyond an int", recovered(record(5, 6, 0, 4, 128, 128, 128, 128, 32, 2, 4, 1)), 0);
        Due.is("how many beyond an int", recovered(record(5, 6, 0, 132, 128, 128, 128, 32, 0, 2, 4, 1)), 0);
    }

    private static void flagsAndLines() throws Exception {
        Due.is("a group by 2", recovered(record(1, 2, 0, 1, 4)), 0);
        Due.is("a group by -1", recovered(record(1, 2, 0, 1, 1)), 0);
        Due.is("shut by 2", recovered(record(2, 0, 4)), 0);
        Due.is("shut by -1", recovered(record(2, 0, 1)), 0);
        Due.is("shut by 2 to the 32nd", recovered(record(2, 0, 128, 128, 128, 128, 32)), 0);
        Due.is("eight lines", recovered(record(5, 6, 0, 16, 0, 2, 0, 1, 0, 2, 0, 1, 0, 2, 0, 1, 0, 2, 0, 1)), 1);
        Due.is("nine lines", recovered(record(5, 6, 0, 18, 0, 2, 0, 1, 0, 2, 0, 1, 0, 2, 0, 1, 0, 2, 0, 3, 0, 2)), 0);
        Due.is("less than no lines", recovered(record(5, 6, 0, 1)), 0);
        Due.is("no lines", recovered(record(5, 6, 0, 0)), 0);
    }

    private static void bodyLengths() throws Exception {
        Due.is("account, a byte few", recovered(record(1, 2, 0, 1)), 0);
        Due.is("account, a byte many", recovered(record(1, 2, 0, 1, 0, 0)), 0);
        Due.is("shut, a byte few", recovered(record(2, 0)), 0);
        Due.is("shut, a byte many", recovered(record(2, 0, 2, 0)), 0);
        Due.is("period, a byte few", recovered(record(3)), 0);
        Due.is("period, a byte many", recovered(record(3, 160, 1, 0)), 0);
        Due.is("owner, a byte few", recovered(record(4)), 0);
        Due.is("owner, a byte many", recovered(record(4, 2, 0)), 0);
        Due.is("post, a byte few", recovered(record(5, 6, 6, 4, 0, 2, 4)), 0);
        Due.is("post, a byte many", recovered(record(5, 6, 6, 4, 0, 2, 4, 1, 0)), 0);
        Due.is("back, a byte few", recovered(record(6, 0)), 0);
        Due.is("back, a byte many", recovered(record(6, 0, 80, 0)), 0);
        Due.is("close, a byte many", recovered(record(7, 0)), 0);
        Due.is("reopen, a byte many", recovered(record(7), record(8, 0)), 1);
    }

    private static void refused() throws Exception {
        Due.is("code 0", recovered(record(1, 0, 0, 1, 0)), 0);
        Due.is("code twice", recovered(record(1, 200, 1, 0, 1, 0)), 0);
        Due.is("parent a leaf", recovered(record(1, 2, 0, 0, 0)), 0);
        Due.is("open already", recovered(record(2, 0, 0)), 0);
        Due.is("no such period", recovered(record(3, 60)), 0);
        Due.is("no leaf of own", recovered(record(4, 0)), 0);
        Due.is("one line", recovered(record(5, 6, 0, 2, 0, 2)), 0);
        Due.is("unequal", recovered(record(5, 6, 0, 4, 0, 2, 4, 2)), 0);
        Due.is("no day", recovered(record(5, 160, 1, 0, 4, 0, 2, 4, 1)), 0);
        Due.is("an amount of 0", recovered(record(5, 6, 0, 4, 0, 0, 4, 0)), 0);
        Due.is("an unknown leaf", recovered(record(5, 6, 0, 4, 0, 2, 8, 1)), 0);
        Due.is("a group", recovered(record(1, 2, 0, 1, 2), record(5, 6, 0, 4, 0, 2, 8, 1)), 1);
        Due.is("the most", recovered(record(5, 6, 0, 4,
            0, 128, 128, 180, 204, 212, 223, 198, 3, 4, 255, 255, 179, 204, 212, 223, 198, 3)), 1);
        Due.is("an amount beyond the most", recovered(record(5, 6, 0, 4,
            0, 130, 128, 180, 204, 212, 223, 198, 3, 4, 129, 128, 180, 204, 212, 223, 198, 3)), 0);
        Due.is("back of none", recovered(record(6, 2, 80)), 0);
        Due.is("back twice", recovered(record(6, 0, 80), record(6, 0, 80)), 1);
        Due.is("nothing to reopen", recovered(record(8)), 0);
        Due.is("nothing to close", recovered(record(7), record(7), record(7)), 2);
    }
}
