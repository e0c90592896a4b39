import java.util.Random;

/**
 * Runs of 512 calls, chosen by fixed seeds: each call is answered by the class and by the model, and behind each run
 * all that can be told is compared. Each run leans another way, so that the far limits are reached, too.
 */
public final class ModelTest {
    private static final int CALLS = 512;
    private static final long MOST = 1000000000000000L;
    private static final int[] ODD = {-1, -2, 0, 1, 2, 5, 7, 8, 9, 10, 11, 59, 60, 61, 255, 256, 399, 400, 1000, 1001,
        9999, 10000, Integer.MAX_VALUE, Integer.MIN_VALUE};
    private static final long[] ODD_AMOUNTS = {0, 1, -1, MOST, -MOST, MOST + 1, -MOST - 1, Long.MAX_VALUE,
        Long.MIN_VALUE, 999, 1000, 1001};
    // How much each run leans to: books, lines, posts, shares, backs, closings, crashes, what is told.
    private static final int[][] LEANINGS = {
        {10, 20, 10, 8, 8, 8, 4, 30},
        {90, 2, 5, 5, 5, 5, 1, 10},
        {3, 10, 40, 5, 5, 0, 0, 5},
        {1, 0, 1, 60, 4, 0, 0, 2},
        {0, 0, 1, 1, 1, 200, 0, 1},
        {8, 20, 10, 8, 8, 8, 20, 10},
        {2, 3, 40, 10, 30, 20, 1, 20},
    };

    private final Random random;
    private final LedgerTwice x = new LedgerTwice();
    private final Model m = new Model();
    private final int seed;
    private final boolean great;

    private ModelTest(int seed) {
        this.seed = seed;
        this.random = new Random(seed);
        this.great = seed % 3 == 0;
    }

    public static void main(String[] args) {
        int runs = args.length > 0 ? Integer.parseInt(args[0]) : 210;
        for (int seed = 0; seed < runs; seed++) {
            new ModelTest(seed).run();
        }
        Due.end();
    }

    private void run() {
        int[] leaning = LEANINGS[seed % LEANINGS.length];
        int all = 0;
        for (int weight : leaning) {
            all += weight;
        }
        if (seed % 5 != 0) {
            found();
        }
        for (int call = 0; call < CALLS; call++) {
            int at = random.nextInt(all);
            int group = 0;
            while (at >= leaning[group]) {
                at -= leaning[group];
                group++;
            }
            step(group);
        }
        if (x.count(10) == 0) {
            due("recover()", x.recover(), m.recover());
        }
        compareAll();
    }

    private void due(String call, long got, long want) {
        Due.is("seed " + seed + ": " + call, got, want);
    }

    /** Books in which most calls are taken. */
    private void found() {
        int[] kinds = {0, 1, 2, 3, 4, 0, 2, 3, 4};
        for (int i = 0; i < kinds.length; i++) {
            boolean group = i == 7;
            due("account", x.account(100 - i, kinds[i], -1, group), m.account(100 - i, kinds[i], -1, group));
        }
        due("account", x.account(70, 3, 7, false), m.account(70, 3, 7, false));
        due("period", x.period(30), m.period(30));
        due("period", x.period(60), m.period(60));
        due("owner", x.owner(2), m.owner(2));
        line(0, great ? MOST : 77);
        line(3, great ? -MOST : -77);
        due("post", x.post(30, 0), m.post(30, 0));
    }

    private int odd() {
        return ODD[random.nextInt(ODD.length)];
    }

    private int account() {
        int many = m.count(0);
        return many <= 0 || random.nextInt(30) == 0 ? odd() : random.nextInt(many);
    }

    private int entry() {
        int many = m.count(3);
        return many <= 0 || random.nextInt(30) == 0 ? odd() : random.nextInt(many);
    }

    private int day() {
        if (random.nextInt(3) == 0) {
            return random.nextInt(10) == 0 ? odd() : random.nextInt(90);
        }
        // Mostly one that is open.
        return Math.max(0, m.periodOf(Math.max(0, m.count(2)), 0)) + random.nextInt(2);
    }

    private long amount() {
        switch (random.nextInt(20)) {
            case 0: return ODD_AMOUNTS[random.nextInt(ODD_AMOUNTS.length)];
            case 1: return random.nextLong() % (MOST + 1);
            default:
                long v = great ? MOST - random.nextInt(3) : 1 + random.nextInt(200);
                return random.nextInt(great ? 15 : 3) == 0 ? -v : v;
        }
    }

    private void step(int group) {
        switch (group) {
            case 0: stepBooks(); break;
            case 1: stepLine(); break;
            case 2: stepPost(); break;
            case 3: stepShare(); break;
            case 4: stepBack(); break;
            case 5: stepClose(); break;
            case 6: stepCrash(); break;
            default: stepTold(); break;
        }
    }

    private void stepBooks() {
        switch (random.nextInt(5)) {
            case 0:
            case 1:
                int code = random.nextInt(20) == 0 ? odd() : 1 + random.nextInt(seed % 4 == 0 ? 120 : 9999);
                int kind = random.nextInt(20) == 0 ? odd() : random.nextInt(5);
                int parent = random.nextInt(3) > 0 ? account() : -1;
                if (m.of(parent, 1) >= 0 && random.nextInt(10) > 0) {
                    kind = m.of(parent, 1);
                }
                boolean group = random.nextInt(3) == 0;
                due("account", x.account(code, kind, parent, group), m.account(code, kind, parent, group));
                break;
            case 2:
                int leaf = account();
                boolean on = random.nextInt(3) == 0;
                due("shut", x.shut(leaf, on), m.shut(leaf, on));
                break;
            case 3:
                int last = m.count(1) > 0 ? m.periodOf(m.count(1) - 1, 1) + random.nextInt(9) - 1 : random.nextInt(9);
                last = random.nextInt(20) == 0 ? odd() : last;
                due("period(" + last + ")", x.period(last), m.period(last));
                break;
            default:
                int owner = account();
                due("owner", x.owner(owner), m.owner(owner));
                break;
        }
    }

    private void line(int leaf, long amount) {
        due("line(" + leaf + ", " + amount + ")", x.line(leaf, amount), m.line(leaf, amount));
    }

    private void stepLine() {
        line(account(), amount());
    }

    private void stepPost() {
        if (random.nextInt(4) > 0) {
            // Most drafts are given the line that brings them to nothing.
            due("drop", x.drop(), m.drop());
            long together = 0;
            for (int i = random.nextInt(3); i >= 0; i--) {
                long v = amount();
                int leaf = account();
                if (m.line(leaf, v) >= 0) {
                    x.line(leaf, v);
                    together += v;
                }
            }
            line(account(), -together);
        }
        int day = day();
        int tag = random.nextInt(3) == 0 ? odd() : random.nextInt(300) - 100;
        due("post(" + day + ", " + tag + ")", x.post(day, tag), m.post(day, tag));
        if (random.nextInt(10) > 0) {
            due("drop", x.drop(), m.drop());
        }
    }

    private void stepShare() {
        if (random.nextInt(5) > 0) {
            due("drop", x.drop(), m.drop());
            for (int i = random.nextInt(8); i >= 0; i--) {
                line(account(), random.nextInt(40) == 0 ? amount() : 1 + random.nextInt(great ? 1000 : 4));
            }
        }
        // In runs of great amounts they mostly go from the same leaf, so that its balance comes to its end.
        int leaf = great && random.nextInt(3) > 0 ? 0 : account();
        long amount = amount();
        int day = day();
        int tag = odd();
        due("share(" + leaf + ", " + amount + ", " + day + ")", x.share(leaf, amount, day, tag),
            m.share(leaf, amount, day, tag));
    }

    private void stepBack() {
        int entry = entry();
        int day = day();
        due("back(" + entry + ", " + day + ")", x.back(entry, day), m.back(entry, day));
    }

    private void stepClose() {
        // To and fro, mostly: each time an entry is written.
        boolean close = random.nextInt(40) == 0 ? random.nextBoolean() : m.count(2) == 0 || seed % 7 != 4;
        if (close && (seed % 7 == 4 || random.nextBoolean())) {
            due("close()", x.close(), m.close());
        } else {
            due("reopen()", x.reopen(), m.reopen());
        }
    }

    private void stepCrash() {
        switch (random.nextInt(4)) {
            case 0:
                due("sync()", x.sync(), m.sync());
                break;
            case 1:
                int loose = m.count(5) - m.count(6);
                int n = random.nextInt(6) == 0 ? odd() : loose - random.nextInt(1 + Math.min(loose, 40));
                int by = random.nextInt(3) == 0 ? odd() : 0;
                due("crash(" + n + ", " + by + ")", x.crash(n, by), m.crash(n, by));
                break;
            default:
                due("recover()", x.recover(), m.recover());
                break;
        }
    }

    private void stepTold() {
        int a = account();
        int e = entry();
        int i = random.nextInt(10) == 0 ? odd() : random.nextInt(9);
        int what = random.nextInt(10) == 0 ? odd() : random.nextInt(7);
        int to = day();
        switch (random.nextInt(13)) {
            case 0: due("of", x.of(a, what), m.of(a, what)); break;
            case 1: due("balance", x.balance(a), m.balance(a)); break;
            case 2: due("sum", x.sum(a, i, to), m.sum(a, i, to)); break;
            case 3: due("entry", x.entry(e, what), m.entry(e, what)); break;
            case 4: due("lineOf", x.lineOf(e, i, what), m.lineOf(e, i, what)); break;
            case 5: due("ledger", x.ledger(a, i, what), m.ledger(a, i, what)); break;
            case 6: due("periodOf", x.periodOf(i, what), m.periodOf(i, what)); break;
            case 7: due("sheet", x.sheet(what - 1), m.sheet(what - 1)); break;
            case 8: due("shown", x.shown(8 * i + what), m.shown(8 * i + what)); break;
            case 9: due("count", x.count(i + what), m.count(i + what)); break;
            case 10: due("byteAt", x.byteAt(8 * i * what), m.byteAt(8 * i * what)); break;
            default: stepPart(i); break;
        }
    }

    private int weight() {
        return random.nextInt(30) == 0 ? odd() : random.nextInt(4) == 0 ? 0 : random.nextInt(1001);
    }

    private void stepPart(int i) {
        long amount = random.nextInt(10) == 0 ? random.nextLong() : random.nextLong() % (MOST + 1);
        int w0 = weight();
        int w1 = weight();
        int w2 = weight();
        int w3 = weight();
        due("part(" + amount + ", " + w0 + ", " + w1 + ", " + w2 + ", " + w3 + ", " + i + ")",
            x.part(amount, w0, w1, w2, w3, i), m.part(amount, w0, w1, w2, w3, i));
    }

    private void compareAll() {
        for (int what = -1; what <= 11; what++) {
            due("count(" + what + ")", x.count(what), m.count(what));
        }
        for (int a = -1; a <= m.count(0); a++) {
            for (int what = -1; what <= 7; what++) {
                due("of(" + a + ", " + what + ")", x.of(a, what), m.of(a, what));
            }
            due("balance(" + a + ")", x.balance(a), m.balance(a));
            int from = random.nextInt(40);
            due("sum(" + a + ")", x.sum(a, from, 50), m.sum(a, from, 50));
            int place = Math.max(0, m.of(a, 6) - 1);
            for (int what = -1; what <= 3; what++) {
                due("ledger(" + a + ")", x.ledger(a, place, what), m.ledger(a, place, what));
                due("ledger(" + a + ")", x.ledger(a, place + 1, what), m.ledger(a, place + 1, what));
            }
        }
        for (int p = -1; p <= m.count(1); p++) {
            for (int what = -1; what <= 4; what++) {
                due("periodOf(" + p + ", " + what + ")", x.periodOf(p, what), m.periodOf(p, what));
            }
        }
        for (int e = -1; e <= m.count(3); e++) {
            for (int what = -1; what <= 6; what++) {
                due("entry(" + e + ", " + what + ")", x.entry(e, what), m.entry(e, what));
            }
            for (int i = -1; i <= Math.max(0, m.entry(e, 3)); i++) {
                for (int what = -1; what <= 2; what++) {
                    due("lineOf(" + e + ", " + i + ")", x.lineOf(e, i, what), m.lineOf(e, i, what));
                }
            }
        }
        for (int i = -1; i <= m.count(5); i++) {
            due("byteAt(" + i + ")", x.byteAt(i), m.byteAt(i));
        }
        for (int way = 0; way <= 2; way++) {
            due("sheet(" + way + ")", x.sheet(way), m.sheet(way));
            for (int i = -1; i <= m.count(9); i++) {
                due("shown(" + i + ")", x.shown(i), m.shown(i));
            }
        }
    }
}
