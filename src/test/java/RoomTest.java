import com.sun.management.ThreadMXBean;
import java.lang.management.ManagementFactory;

/** LANGUAGE.md, rule 12: rows are made by the constructor, grow as the books do, and are used again. */
public final class RoomTest {
    private static final ThreadMXBean MEMORY = (ThreadMXBean) ManagementFactory.getThreadMXBean();
    private static final int MOST_CALLS = 512;
    private static final int NEW = 32_000, GREATEST = 2_000_000, NOTHING = 2_000;

    public static void main(String[] args) {
        // The first time, classes are loaded on the same account.
        greatest();
        newObject();
        greatestBooks();
        usedAgain();
        Due.end();
    }

    private static void least(String what, Runnable calls, long most) {
        long before = MEMORY.getCurrentThreadAllocatedBytes();
        calls.run();
        long made = MEMORY.getCurrentThreadAllocatedBytes() - before;
        Due.isTrue(what + " makes at most " + most + " bytes, not " + made, made <= most);
    }

    /** As many lines as 512 calls can write: closings and openings of 60 lines each. */
    private static LedgerTwice greatest() {
        LedgerTwice x = new LedgerTwice();
        x.account(1, 2, -1, false);
        for (int i = 1; i < 60; i++) {
            x.account(1 + i, 3, -1, false);
        }
        x.period(30);
        x.owner(0);
        int calls = 62;
        for (int i = 1; i < 60; i += 7) {
            for (int k = i; k < i + 7; k++) {
                x.line(k % 60, 1);
            }
            x.share(0, 700, 3, 3);
            calls += 8;
        }
        for (; calls < MOST_CALLS - 1; calls += 2) {
            x.close();
            x.reopen();
        }
        return x;
    }

    private static void newObject() {
        least("a new object", () -> new LedgerTwice(), NEW);
    }

    private static void greatestBooks() {
        least("the dearest run", () -> greatest(), GREATEST);
        LedgerTwice x = greatest();
        Due.isTrue("closings of 60 lines", x.entry(x.count(3) - 1, 3) == 60);
        Due.isTrue("nearly as many as there may be", x.count(3) > 350);
    }

    private static void usedAgain() {
        LedgerTwice x = greatest();
        Runnable again = () -> {
            for (int way = 0; way < 3; way++) {
                x.sheet(way);
            }
            x.sum(0, 0, 30);
            x.ledger(0, 100, 2);
            x.part(100, 1, 2, 3, 4, 0);
            x.line(0, 1);
            x.share(1, 10, 31, 3);
            x.drop();
            x.sync();
            x.crash(6000, 0);
            x.recover();
        };
        again.run();
        least("all that was done before", again, NOTHING);
        Due.is("it is up", x.count(10), 1);
    }
}
