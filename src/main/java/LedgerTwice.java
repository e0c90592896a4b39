import java.util.Arrays;

/**
 * Books that are kept twice, and a journal of bytes from which they are made anew.
 * The document says what each call answers; the comments here say only why it is done so.
 */
public final class LedgerTwice {
    public static final int NONE = -1, UNKNOWN = -2, OUTSIDE = -3, KIND = -4, TWICE = -5, NOT = -6, FEW = -7,
        UNEQUAL = -8, NODAY = -9, CLOSED = -10, SHUT = -11, OVER = -12, FULL = -13;

    // All refusals are below 0, so 0 is free to say that there is none.
    private static final int ACCEPTED = 0;
    private static final long LEAST = -9223372036854775808L;

    private static final int MOST_ACCOUNTS = 60, MOST_CODE = 9999, MOST_DEPTH = 5;
    private static final int KINDS = 5, OWN = 2, INCOME = 3, COSTS = 4;
    private static final int MOST_PERIODS = 24, MOST_DAY = 9999;
    private static final int MOST_ENTRIES = 400, MOST_DRAFT = 8;
    private static final long MOST_AMOUNT = 1000000000000000L, MOST_BALANCE = 10000000000000000L;
    private static final int MOST_WEIGHTS = 7, MOST_WEIGHT = 1000;
    private static final int MOST_JOURNAL = 6000, MOST_BODY = 255, MOST_NUMBER = 10, FRAME = 4;
    private static final int MOST_SHEET = 4000, MOST_FIGURES = 20;
    private static final int WAYS = 3, PART_WEIGHTS = 4;

    private static final int PLAIN = 0, BACK = 1, CLOSING = 2, OPENING = 3;
    private static final int ACCOUNT_RECORD = 1, SHUT_RECORD = 2, PERIOD_RECORD = 3, OWNER_RECORD = 4,
        POST_RECORD = 5, BACK_RECORD = 6, CLOSE_RECORD = 7, REOPEN_RECORD = 8;

    private final Books books = new Books();
    private final Journal journal = new Journal();
    private final Recovery recovery = new Recovery(journal, books);
    private final Lines draft = new Lines(MOST_DRAFT);
    private final Lines work = new Lines(MOST_ACCOUNTS);
    private final Shares shares = new Shares();
    private final Sheet paper = new Sheet(books.accounts);
    private boolean up = true;

    public LedgerTwice() {
    }

    // ---- accounts, periods

    public int account(int code, int kind, int parent, boolean group) {
        if (!up) {
            return NOT;
        }
        int refusal = books.refusesAccount(code, kind, parent);
        if (refusal != ACCEPTED) {
            return refusal;
        }
        journal.begin(ACCOUNT_RECORD);
        journal.number(code);
        journal.number(kind);
        journal.number(parent);
        journal.number(group ? 1 : 0);
        return journal.write() ? books.accounts.add(code, kind, parent, group) : FULL;
    }

    public int shut(int account, boolean on) {
        if (!up) {
            return NOT;
        }
        int refusal = books.refusesShut(account, on);
        if (refusal != ACCEPTED) {
            return refusal;
        }
        journal.begin(SHUT_RECORD);
        journal.number(account);
        journal.number(on ? 1 : 0);
        if (!journal.write()) {
            return FULL;
        }
        books.accounts.setShut(account, on);
        return on ? 0 : 1;
    }

    public int period(int lastDay) {
        if (!up) {
            return NOT;
        }
        int refusal = books.refusesPeriod(lastDay);
        if (refusal != ACCEPTED) {
            return refusal;
        }
        journal.begin(PERIOD_RECORD);
        journal.number(lastDay);
        return journal.write() ? books.periods.add(lastDay) : FULL;
    }

    public int owner(int account) {
        if (!up) {
            return NOT;
        }
        int refusal = books.refusesOwner(account);
        if (refusal != ACCEPTED) {
            return refusal;
        }
        journal.begin(OWNER_RECORD);
        journal.number(account);
        return journal.write() ? books.changeOwner(account) : FULL;
    }

    // ---- entries

    public int line(int account, long amount) {
        if (!up) {
            return NOT;
        }
        int refusal = books.refusesLine(account, amount);
        if (refusal != ACCEPTED) {
            return refusal;
        }
        if (draft.size >= MOST_DRAFT) {
            return FULL;
        }
        draft.add(account, amount);
        return draft.size;
    }

    public int drop() {
        if (!up) {
            return NOT;
        }
        int had = draft.size;
        draft.clear();
        return had;
    }

    public int post(int day, int tag) {
        return up ? writePlain(draft, day, tag) : NOT;
    }

    public int back(int entry, int day) {
        if (!up) {
            return NOT;
        }
        int refusal = books.refusesBack(entry, day, work);
        if (refusal != ACCEPTED) {
            return refusal;
        }
        journal.begin(BACK_RECORD);
        journal.number(entry);
        journal.number(day);
        return journal.write() ? books.turnBack(entry, day, work) : FULL;
    }

    public int close() {
        if (!up) {
            return NOT;
        }
        int refusal = books.refusesClose(work);
        if (refusal != ACCEPTED) {
            return refusal;
        }
        journal.begin(CLOSE_RECORD);
        return journal.write() ? books.closePeriod(work) : FULL;
    }

    public int reopen() {
        if (!up) {
            return NOT;
        }
        int refusal = books.refusesReopen(work);
        if (refusal != ACCEPTED) {
            return refusal;
        }
        journal.begin(REOPEN_RECORD);
        return journal.write() ? books.reopenPeriod(work) : FULL;
    }

    public int share(int account, long amount, int day, int tag) {
        if (!up) {
            return NOT;
        }
        int refusal = refusesShare(account, amount);
        if (refusal != ACCEPTED) {
            return refusal;
        }
        shareOut(account, amount);
        return writePlain(work, day, tag);
    }

    // ---- the journal

    public int sync() {
        return up ? journal.makeDurable() : NOT;
    }

    public int crash(int n, int by) {
        if (n < 0 || by < 0 || by > 255) {
            return OUTSIDE;
        }
        journal.tear(n, by);
        draft.clear();
        paper.clear();
        up = false;
        return journal.size;
    }

    public int recover() {
        if (up) {
            return NOT;
        }
        books.clear();
        int start = 0;
        int done = 0;
        int length = journal.recordAt(start);
        while (length > 0 && start < MOST_JOURNAL && recovery.redo(start, length)) {
            start += length;
            done++;
            length = journal.recordAt(start);
        }
        journal.cut(start, done);
        up = true;
        return done;
    }

    public int byteAt(int i) {
        return i >= 0 && i < journal.size ? journal.bytes.at(i) : UNKNOWN;
    }

    // ---- what is told

    public int of(int account, int what) {
        if (!up) {
            return NOT;
        }
        return books.accounts.has(account) ? books.accounts.told(account, what) : UNKNOWN;
    }

    public long balance(int account) {
        if (!up || !books.accounts.has(account)) {
            return LEAST;
        }
        return books.accounts.totalUnder(account, books.accounts.balances);
    }

    public long sum(int account, int from, int to) {
        if (!up || !books.accounts.has(account)) {
            return LEAST;
        }
        return books.sumInDays(account, from, to);
    }

    public int entry(int entry, int what) {
        if (!up) {
            return NOT;
        }
        return books.entries.has(entry) ? books.entries.told(entry, what) : UNKNOWN;
    }

    public long lineOf(int entry, int i, int what) {
        if (!up || !books.entries.has(entry) || i < 0 || i >= books.entries.lineCounts.at(entry)) {
            return LEAST;
        }
        switch (what) {
            case 0: return books.entries.accountOf(entry, i);
            case 1: return books.entries.amountOf(entry, i);
            default: return LEAST;
        }
    }

    public long ledger(int account, int i, int what) {
        if (!up || !books.accounts.isLeaf(account) || i < 0 || i >= books.accounts.lineCounts.at(account)) {
            return LEAST;
        }
        return books.entries.ledgerLine(account, i, what);
    }

    public int periodOf(int period, int what) {
        if (!up) {
            return NOT;
        }
        return books.periods.has(period) ? books.periods.told(period, what) : UNKNOWN;
    }

    public int sheet(int way) {
        if (!up) {
            return NOT;
        }
        if (way < 0 || way >= WAYS) {
            return OUTSIDE;
        }
        return paper.write(way) ? paper.size : FULL;
    }

    public int shown(int i) {
        if (!up) {
            return NOT;
        }
        return i >= 0 && i < paper.size ? paper.bytes.at(i) : UNKNOWN;
    }

    public long part(long amount, int w0, int w1, int w2, int w3, int i) {
        if (i < 0 || i >= PART_WEIGHTS || !isWithin(amount, MOST_AMOUNT)) {
            return LEAST;
        }
        if (!isPartWeight(w0) || !isPartWeight(w1) || !isPartWeight(w2) || !isPartWeight(w3)) {
            return LEAST;
        }
        shares.clear();
        shares.add(w0);
        shares.add(w1);
        shares.add(w2);
        shares.add(w3);
        return shares.divide(amount) ? shares.parts.at(i) : LEAST;
    }

    public int count(int what) {
        switch (what) {
            case 5: return journal.size;
            case 6: return journal.durable;
            case 7: return journal.records;
            case 9: return paper.size;
            case 10: return up ? 1 : 0;
            default: return countOfBooks(what);
        }
    }

    // ---- of use to several calls

    /** Those that nobody is told while the books are down. */
    private int countOfBooks(int what) {
        switch (what) {
            case 0: return up ? books.accounts.size : NOT;
            case 1: return up ? books.periods.size : NOT;
            case 2: return up ? books.periods.closed : NOT;
            case 3: return up ? books.entries.size : NOT;
            case 4: return up ? draft.size : NOT;
            case 8: return up ? books.owner : NOT;
            default: return OUTSIDE;
        }
    }

    private int writePlain(Lines lines, int day, int tag) {
        int refusal = books.judge(lines, day);
        if (refusal != ACCEPTED) {
            return refusal;
        }
        journal.begin(POST_RECORD);
        journal.number(day);
        journal.number(tag);
        journal.number(lines.size);
        for (int i = 0; i < lines.size; i++) {
            journal.number(lines.accounts.at(i));
            journal.number(lines.amounts.at(i));
        }
        if (!journal.write()) {
            return FULL;
        }
        int number = books.enter(lines, day, tag, PLAIN, NONE);
        draft.clear();
        return number;
    }

    private int refusesShare(int account, long amount) {
        if (!books.accounts.has(account)) {
            return UNKNOWN;
        }
        if (!isAmount(amount) || !areWeights(draft)) {
            return OUTSIDE;
        }
        if (!books.accounts.isLeaf(account)) {
            return KIND;
        }
        return draft.size == 0 ? NOT : ACCEPTED;
    }

    private void shareOut(int account, long amount) {
        shares.clear();
        for (int i = 0; i < draft.size; i++) {
            shares.add((int) draft.amounts.at(i));
        }
        shares.divide(amount);
        work.clear();
        work.add(account, -amount);
        for (int i = 0; i < draft.size; i++) {
            if (shares.parts.at(i) != 0) {
                work.add(draft.accounts.at(i), shares.parts.at(i));
            }
        }
    }

    private static boolean areWeights(Lines lines) {
        for (int i = 0; i < lines.size; i++) {
            long weight = lines.amounts.at(i);
            if (weight < 1 || weight > MOST_WEIGHT) {
                return false;
            }
        }
        return lines.size <= MOST_WEIGHTS;
    }

    private static boolean isPartWeight(int weight) {
        return weight >= 0 && weight <= MOST_WEIGHT;
    }

    private static boolean isAmount(long amount) {
        return amount != 0 && isWithin(amount, MOST_AMOUNT);
    }

    private static boolean isWithin(long v, long most) {
        return v >= -most && v <= most;
    }

    /** A row that takes room only as it is used; a place outside it reads 0, so that no index is ever wrong. */
    private static final class Ints {
        private final int limit;
        private int[] cells;

        Ints(int limit) {
            this.limit = limit;
            cells = new int[16];
        }

        int at(int i) {
            return i >= 0 && i < cells.length ? cells[i] : 0;
        }

        void put(int i, int v) {
            if (i < 0 || i >= limit) {
                return;
            }
            if (i >= cells.length) {
                cells = Arrays.copyOf(cells, Math.max(i + 1, Math.min(limit, 2 * cells.length)));
            }
            cells[i] = v;
        }
    }

    /** As Ints, of longs. */
    private static final class Longs {
        private final int limit;
        private long[] cells;

        Longs(int limit) {
            this.limit = limit;
            cells = new long[16];
        }

        long at(int i) {
            return i >= 0 && i < cells.length ? cells[i] : 0;
        }

        void put(int i, long v) {
            if (i < 0 || i >= limit) {
                return;
            }
            if (i >= cells.length) {
                cells = Arrays.copyOf(cells, Math.max(i + 1, Math.min(limit, 2 * cells.length)));
            }
            cells[i] = v;
        }

        void clear() {
            Arrays.fill(cells, 0L);
        }
    }

    /** Lines that are no entry yet: the draft, or those of an entry that is being made. */
    private static final class Lines {
        final Ints accounts;
        final Longs amounts;
        int size;

        Lines(int limit) {
            accounts = new Ints(limit);
            amounts = new Longs(limit);
        }

        void clear() {
            size = 0;
        }

        void add(int account, long amount) {
            accounts.put(size, account);
            amounts.put(size, amount);
            size++;
        }

        long total() {
            long total = 0;
            for (int i = 0; i < size; i++) {
                total += amounts.at(i);
            }
            return total;
        }
    }

    /** An amount that is shared by weights without a rest. */
    private static final class Shares {
        final Longs parts = new Longs(MOST_WEIGHTS);
        private final Ints weights = new Ints(MOST_WEIGHTS);
        private final Longs remainders = new Longs(MOST_WEIGHTS);
        private int size;

        void clear() {
            size = 0;
        }

        void add(int weight) {
            weights.put(size, weight);
            size++;
        }

        /** False if the weights come to nothing: then there is nothing to share by. */
        boolean divide(long amount) {
            long together = 0;
            for (int i = 0; i < size; i++) {
                together += weights.at(i);
            }
            if (together <= 0) {
                return false;
            }
            long rest = amount;
            for (int i = 0; i < size; i++) {
                long product = amount * weights.at(i);
                parts.put(i, product / together);
                remainders.put(i, Math.abs(product % together));
                rest -= parts.at(i);
            }
            giveRest(rest);
            return true;
        }

        private void giveRest(long rest) {
            long one = rest < 0 ? -1 : 1;
            long left = Math.abs(rest);
            for (int round = 0; round < size && round < left; round++) {
                int next = withGreatestRemainder();
                parts.put(next, parts.at(next) + one);
                // Below every remainder: each gets one of the rest only once.
                remainders.put(next, -1);
            }
        }

        private int withGreatestRemainder() {
            int greatest = 0;
            for (int i = 1; i < size; i++) {
                if (remainders.at(i) > remainders.at(greatest)) {
                    greatest = i;
                }
            }
            return greatest;
        }
    }

    /** The tree of accounts, and of each leaf its balance and how many lines it has. */
    private static final class Accounts {
        final Ints codes = new Ints(MOST_ACCOUNTS);
        final Ints kinds = new Ints(MOST_ACCOUNTS);
        final Ints parents = new Ints(MOST_ACCOUNTS);
        final Ints depths = new Ints(MOST_ACCOUNTS);
        final Ints lineCounts = new Ints(MOST_ACCOUNTS);
        final Ints byCode = new Ints(MOST_ACCOUNTS);
        final Longs balances = new Longs(MOST_ACCOUNTS);
        private final Ints groups = new Ints(MOST_ACCOUNTS);
        private final Ints shuts = new Ints(MOST_ACCOUNTS);
        int size;

        void clear() {
            size = 0;
        }

        boolean has(int account) {
            return account >= 0 && account < size;
        }

        boolean isLeaf(int account) {
            return has(account) && groups.at(account) == 0;
        }

        boolean isShut(int account) {
            return shuts.at(account) == 1;
        }

        void setShut(int account, boolean on) {
            shuts.put(account, on ? 1 : 0);
        }

        boolean takesChild(int account, int kind) {
            return groups.at(account) == 1 && kinds.at(account) == kind && depths.at(account) < MOST_DEPTH;
        }

        boolean hasCode(int code) {
            for (int a = 0; a < size; a++) {
                if (codes.at(a) == code) {
                    return true;
                }
            }
            return false;
        }

        int add(int code, int kind, int parent, boolean group) {
            int number = size;
            codes.put(number, code);
            kinds.put(number, kind);
            parents.put(number, parent);
            depths.put(number, parent == NONE ? 0 : depths.at(parent) + 1);
            groups.put(number, group ? 1 : 0);
            shuts.put(number, 0);
            lineCounts.put(number, 0);
            balances.put(number, 0);
            putByCode(number);
            size++;
            return number;
        }

        private void putByCode(int number) {
            int place = size;
            while (place > 0 && codes.at(byCode.at(place - 1)) > codes.at(number)) {
                byCode.put(place, byCode.at(place - 1));
                place--;
            }
            byCode.put(place, number);
        }

        void enterLine(int leaf, long amount) {
            balances.put(leaf, balances.at(leaf) + amount);
            lineCounts.put(leaf, lineCounts.at(leaf) + 1);
        }

        /** What a row that has a number for each leaf comes to, over all leaves of an account. */
        long totalUnder(int account, Longs row) {
            if (isLeaf(account)) {
                return row.at(account);
            }
            long total = 0;
            for (int a = 0; a < size; a++) {
                if (isLeaf(a) && isUnder(a, account)) {
                    total += row.at(a);
                }
            }
            return total;
        }

        private boolean isUnder(int leaf, int group) {
            int above = parents.at(leaf);
            for (int i = 0; i < MOST_DEPTH && above != NONE; i++) {
                if (above == group) {
                    return true;
                }
                above = parents.at(above);
            }
            return false;
        }

        long totalOfKind(int kind) {
            long total = 0;
            for (int a = 0; a < size; a++) {
                if (isLeaf(a) && kinds.at(a) == kind) {
                    total += balances.at(a);
                }
            }
            return total;
        }

        int told(int account, int what) {
            switch (what) {
                case 0: return codes.at(account);
                case 1: return kinds.at(account);
                case 2: return parents.at(account);
                case 3: return groups.at(account);
                case 4: return shuts.at(account);
                case 5: return depths.at(account);
                case 6: return lineCounts.at(account);
                default: return OUTSIDE;
            }
        }
    }

    /** The periods: those that are closed are always the first ones, so their number tells which they are. */
    private static final class Periods {
        private final Ints lastDays = new Ints(MOST_PERIODS);
        private final Ints closings = new Ints(MOST_PERIODS);
        int size;
        int closed;

        void clear() {
            size = 0;
            closed = 0;
        }

        boolean has(int period) {
            return period >= 0 && period < size;
        }

        int add(int lastDay) {
            int number = size;
            lastDays.put(number, lastDay);
            closings.put(number, NONE);
            size++;
            return number;
        }

        int firstDay(int period) {
            return period == 0 ? 0 : lastDays.at(period - 1) + 1;
        }

        int lastDay(int period) {
            return lastDays.at(period);
        }

        int firstFreeDay() {
            return firstDay(size);
        }

        /** The period that has the day, or NONE. */
        int withDay(int day) {
            for (int p = 0; p < size; p++) {
                if (day >= 0 && day <= lastDays.at(p)) {
                    return p;
                }
            }
            return NONE;
        }

        int closingOf(int period) {
            return closings.at(period);
        }

        void closeFirstOpen(int closing) {
            closings.put(closed, closing);
            closed++;
        }

        void openLastClosed() {
            closed--;
            closings.put(closed, NONE);
        }

        int told(int period, int what) {
            switch (what) {
                case 0: return firstDay(period);
                case 1: return lastDay(period);
                case 2: return period < closed ? 1 : 0;
                case 3: return closingOf(period);
                default: return OUTSIDE;
            }
        }
    }

    /** The entries; the lines of all of them stand behind one another in the same rows. */
    private static final class Entries {
        final Ints days = new Ints(MOST_ENTRIES);
        final Ints tags = new Ints(MOST_ENTRIES);
        final Ints sorts = new Ints(MOST_ENTRIES);
        final Ints lineCounts = new Ints(MOST_ENTRIES);
        final Ints backs = new Ints(MOST_ENTRIES);
        private final Ints sources = new Ints(MOST_ENTRIES);
        private final Ints firstLines = new Ints(MOST_ENTRIES);
        private final Ints lineAccounts = new Ints(MOST_ENTRIES * MOST_ACCOUNTS);
        private final Longs lineAmounts = new Longs(MOST_ENTRIES * MOST_ACCOUNTS);
        int size;
        private int allLines;

        void clear() {
            size = 0;
            allLines = 0;
        }

        boolean has(int entry) {
            return entry >= 0 && entry < size;
        }

        int add(Lines lines, int day, int tag, int sort, int source) {
            int number = size;
            days.put(number, day);
            tags.put(number, tag);
            sorts.put(number, sort);
            backs.put(number, NONE);
            sources.put(number, source);
            firstLines.put(number, allLines);
            lineCounts.put(number, lines.size);
            for (int i = 0; i < lines.size; i++) {
                lineAccounts.put(allLines, lines.accounts.at(i));
                lineAmounts.put(allLines, lines.amounts.at(i));
                allLines++;
            }
            size++;
            return number;
        }

        int accountOf(int entry, int i) {
            return lineAccounts.at(firstLines.at(entry) + i);
        }

        long amountOf(int entry, int i) {
            return lineAmounts.at(firstLines.at(entry) + i);
        }

        /** The entry's lines, each less its amount. */
        void turn(int entry, Lines into) {
            into.clear();
            for (int i = 0; i < lineCounts.at(entry); i++) {
                into.add(accountOf(entry, i), -amountOf(entry, i));
            }
        }

        /** What each leaf has in the entries of these days. */
        void gather(int from, int to, Longs into) {
            into.clear();
            for (int e = 0; e < size; e++) {
                if (days.at(e) >= from && days.at(e) <= to) {
                    for (int i = 0; i < lineCounts.at(e); i++) {
                        int leaf = accountOf(e, i);
                        into.put(leaf, into.at(leaf) + amountOf(e, i));
                    }
                }
            }
        }

        long ledgerLine(int leaf, int place, int what) {
            int seen = 0;
            long balance = 0;
            for (int e = 0; e < size; e++) {
                for (int i = 0; i < lineCounts.at(e); i++) {
                    if (accountOf(e, i) == leaf) {
                        balance += amountOf(e, i);
                        if (seen == place) {
                            return toldOfLedger(e, amountOf(e, i), balance, what);
                        }
                        seen++;
                    }
                }
            }
            return LEAST;
        }

        private static long toldOfLedger(int entry, long amount, long balance, int what) {
            switch (what) {
                case 0: return entry;
                case 1: return amount;
                case 2: return balance;
                default: return LEAST;
            }
        }

        int told(int entry, int what) {
            switch (what) {
                case 0: return days.at(entry);
                case 1: return tags.at(entry);
                case 2: return sorts.at(entry);
                case 3: return lineCounts.at(entry);
                case 4: return backs.at(entry);
                case 5: return sources.at(entry);
                default: return OUTSIDE;
            }
        }
    }

    /**
     * Accounts, periods and entries together. What is refused is asked first (refuses..), then it is done: the
     * journal stands between the two in a call, and is left out when records are done anew.
     */
    private static final class Books {
        final Accounts accounts = new Accounts();
        final Periods periods = new Periods();
        final Entries entries = new Entries();
        int owner = NONE;
        // What each leaf has in the days that were asked for last.
        private final Longs tally = new Longs(MOST_ACCOUNTS);

        void clear() {
            accounts.clear();
            periods.clear();
            entries.clear();
            owner = NONE;
        }

        int refusesAccount(int code, int kind, int parent) {
            if (parent != NONE && !accounts.has(parent)) {
                return UNKNOWN;
            }
            if (code < 1 || code > MOST_CODE || kind < 0 || kind >= KINDS) {
                return OUTSIDE;
            }
            if (parent != NONE && !accounts.takesChild(parent, kind)) {
                return KIND;
            }
            if (accounts.hasCode(code)) {
                return TWICE;
            }
            return accounts.size >= MOST_ACCOUNTS ? FULL : ACCEPTED;
        }

        int refusesShut(int account, boolean on) {
            if (!accounts.has(account)) {
                return UNKNOWN;
            }
            if (!accounts.isLeaf(account)) {
                return KIND;
            }
            return accounts.isShut(account) == on ? NOT : ACCEPTED;
        }

        int refusesPeriod(int lastDay) {
            if (lastDay < periods.firstFreeDay() || lastDay > MOST_DAY) {
                return OUTSIDE;
            }
            return periods.size >= MOST_PERIODS ? FULL : ACCEPTED;
        }

        int refusesOwner(int account) {
            if (!accounts.has(account)) {
                return UNKNOWN;
            }
            return accounts.isLeaf(account) && accounts.kinds.at(account) == OWN ? ACCEPTED : KIND;
        }

        int changeOwner(int account) {
            int before = owner;
            owner = account;
            return before;
        }

        int refusesLine(int account, long amount) {
            if (!accounts.has(account)) {
                return UNKNOWN;
            }
            if (!isAmount(amount)) {
                return OUTSIDE;
            }
            return accounts.isLeaf(account) ? ACCEPTED : KIND;
        }

        int judge(Lines lines, int day) {
            if (lines.size < 2) {
                return FEW;
            }
            if (lines.total() != 0) {
                return UNEQUAL;
            }
            int period = periods.withDay(day);
            if (period == NONE) {
                return NODAY;
            }
            if (period < periods.closed) {
                return CLOSED;
            }
            return hasShut(lines) ? SHUT : refusesUnjudged(lines);
        }

        /** What an entry is judged by even if the books write it themselves. */
        private int refusesUnjudged(Lines lines) {
            if (goesOver(lines)) {
                return OVER;
            }
            return lines.size > 0 && entries.size >= MOST_ENTRIES ? FULL : ACCEPTED;
        }

        private boolean hasShut(Lines lines) {
            for (int i = 0; i < lines.size; i++) {
                if (accounts.isShut(lines.accounts.at(i))) {
                    return true;
                }
            }
            return false;
        }

        private boolean goesOver(Lines lines) {
            for (int i = 0; i < lines.size; i++) {
                int leaf = lines.accounts.at(i);
                long balance = accounts.balances.at(leaf);
                for (int j = 0; j < lines.size; j++) {
                    balance += lines.accounts.at(j) == leaf ? lines.amounts.at(j) : 0;
                }
                if (!isWithin(balance, MOST_BALANCE)) {
                    return true;
                }
            }
            return false;
        }

        int enter(Lines lines, int day, int tag, int sort, int source) {
            for (int i = 0; i < lines.size; i++) {
                accounts.enterLine(lines.accounts.at(i), lines.amounts.at(i));
            }
            return entries.add(lines, day, tag, sort, source);
        }

        /** Leaves the lines that turnBack() needs. */
        int refusesBack(int entry, int day, Lines lines) {
            if (!entries.has(entry)) {
                return UNKNOWN;
            }
            if (entries.sorts.at(entry) != PLAIN) {
                return KIND;
            }
            if (entries.backs.at(entry) != NONE) {
                return TWICE;
            }
            entries.turn(entry, lines);
            return judge(lines, day);
        }

        int turnBack(int entry, int day, Lines lines) {
            int number = enter(lines, day, entries.tags.at(entry), BACK, entry);
            entries.backs.put(entry, number);
            return number;
        }

        /** Leaves the lines that closePeriod() needs. */
        int refusesClose(Lines lines) {
            if (periods.closed >= periods.size || owner == NONE) {
                return NOT;
            }
            fillClosing(periods.closed, lines);
            return refusesUnjudged(lines);
        }

        private void fillClosing(int period, Lines lines) {
            entries.gather(periods.firstDay(period), periods.lastDay(period), tally);
            lines.clear();
            for (int i = 0; i < accounts.size; i++) {
                int account = accounts.byCode.at(i);
                if (isClosedOut(account) && tally.at(account) != 0) {
                    lines.add(account, -tally.at(account));
                }
            }
            long total = lines.total();
            if (total != 0) {
                lines.add(owner, -total);
            }
        }

        private boolean isClosedOut(int account) {
            int kind = accounts.kinds.at(account);
            return accounts.isLeaf(account) && (kind == INCOME || kind == COSTS);
        }

        int closePeriod(Lines lines) {
            int period = periods.closed;
            int closing = NONE;
            if (lines.size > 0) {
                closing = enter(lines, periods.lastDay(period), 0, CLOSING, period);
            }
            periods.closeFirstOpen(closing);
            return period;
        }

        /** Leaves the lines that reopenPeriod() needs. */
        int refusesReopen(Lines lines) {
            if (periods.closed <= 0) {
                return NOT;
            }
            lines.clear();
            int closing = periods.closingOf(periods.closed - 1);
            if (closing != NONE) {
                entries.turn(closing, lines);
            }
            return refusesUnjudged(lines);
        }

        int reopenPeriod(Lines lines) {
            int period = periods.closed - 1;
            if (lines.size > 0) {
                enter(lines, periods.lastDay(period), 0, OPENING, period);
            }
            periods.openLastClosed();
            return period;
        }

        long sumInDays(int account, int from, int to) {
            entries.gather(from, to, tally);
            return accounts.totalUnder(account, tally);
        }
    }

    /** The bytes of the records, and the body of the one that is to be written next. */
    private static final class Journal {
        final Ints bytes = new Ints(MOST_JOURNAL);
        private final Ints body = new Ints(MOST_BODY);
        private int bodySize;
        private int sort;
        int size;
        int durable;
        int records;

        void begin(int recordSort) {
            sort = recordSort;
            bodySize = 0;
        }

        void number(long v) {
            long z = (v << 1) ^ (v >> 63);
            for (int i = 0; i < MOST_NUMBER; i++) {
                int seven = (int) (z & 127);
                z >>>= 7;
                body.put(bodySize, z == 0 ? seven : seven + 128);
                bodySize++;
                if (z == 0) {
                    return;
                }
            }
        }

        /** False if there is no room: then nothing is written. */
        boolean write() {
            if (size + FRAME + bodySize > MOST_JOURNAL) {
                return false;
            }
            int start = size;
            put(bodySize);
            put(sort);
            for (int i = 0; i < bodySize; i++) {
                put(body.at(i));
            }
            int check = checkOf(start, size);
            put(check >> 8);
            put(check & 255);
            records++;
            return true;
        }

        private void put(int b) {
            bytes.put(size, b);
            size++;
        }

        private int checkOf(int from, int to) {
            int c = 65535;
            for (int i = from; i < to; i++) {
                c ^= bytes.at(i) << 8;
                for (int bit = 0; bit < 8; bit++) {
                    c = (c & 32768) == 0 ? c << 1 : (c << 1) ^ 4129;
                }
                c &= 65535;
            }
            return c;
        }

        /** How long the record is that stands there whole and with the right check; 0 if none does. */
        int recordAt(int start) {
            if (start + FRAME > size) {
                return 0;
            }
            int length = bytes.at(start) + FRAME;
            if (start + length > size) {
                return 0;
            }
            int end = start + length - 2;
            int check = (bytes.at(end) << 8) + bytes.at(end + 1);
            return check == checkOf(start, end) ? length : 0;
        }

        int makeDurable() {
            int loose = size - durable;
            durable = size;
            return loose;
        }

        void tear(int n, int by) {
            int kept = Math.min(n, size - durable);
            size = durable + kept;
            if (kept > 0) {
                bytes.put(size - 1, bytes.at(size - 1) ^ by);
            }
        }

        void cut(int length, int recordsDone) {
            size = length;
            durable = length;
            records = recordsDone;
        }
    }

    /** Does the records of the journal anew, one by one. */
    private static final class Recovery {
        private final Journal journal;
        private final Books books;
        private final Lines lines = new Lines(MOST_ACCOUNTS);
        private int at;
        private int end;
        // Once a number of a body is none, the whole record is none.
        private boolean faulty;

        Recovery(Journal journal, Books books) {
            this.journal = journal;
            this.books = books;
        }

        /** False if the record can't be done: then nothing is changed. */
        boolean redo(int start, int length) {
            at = start + 2;
            end = start + length - 2;
            faulty = false;
            switch (journal.bytes.at(start + 1)) {
                case ACCOUNT_RECORD: return redoAccount();
                case SHUT_RECORD: return redoShut();
                case PERIOD_RECORD: return redoPeriod();
                case OWNER_RECORD: return redoOwner();
                case POST_RECORD: return redoPost();
                case BACK_RECORD: return redoBack();
                case CLOSE_RECORD: return redoClose();
                case REOPEN_RECORD: return redoReopen();
                default: return false;
            }
        }

        private boolean redoAccount() {
            int code = nextInt();
            int kind = nextInt();
            int parent = nextInt();
            boolean group = nextFlag();
            if (!isReadWhole() || books.refusesAccount(code, kind, parent) != ACCEPTED) {
                return false;
            }
            books.accounts.add(code, kind, parent, group);
            return true;
        }

        private boolean redoShut() {
            int account = nextInt();
            boolean on = nextFlag();
            if (!isReadWhole() || books.refusesShut(account, on) != ACCEPTED) {
                return false;
            }
            books.accounts.setShut(account, on);
            return true;
        }

        private boolean redoPeriod() {
            int lastDay = nextInt();
            if (!isReadWhole() || books.refusesPeriod(lastDay) != ACCEPTED) {
                return false;
            }
            books.periods.add(lastDay);
            return true;
        }

        private boolean redoOwner() {
            int account = nextInt();
            if (!isReadWhole() || books.refusesOwner(account) != ACCEPTED) {
                return false;
            }
            books.changeOwner(account);
            return true;
        }

        private boolean redoPost() {
            int day = nextInt();
            int tag = nextInt();
            if (!readLines() || !isReadWhole() || books.judge(lines, day) != ACCEPTED) {
                return false;
            }
            books.enter(lines, day, tag, PLAIN, NONE);
            return true;
        }

        private boolean readLines() {
            int many = nextInt();
            lines.clear();
            if (many < 0 || many > MOST_DRAFT) {
                return false;
            }
            for (int i = 0; i < many; i++) {
                int account = nextInt();
                long amount = nextNumber();
                if (faulty || books.refusesLine(account, amount) != ACCEPTED) {
                    return false;
                }
                lines.add(account, amount);
            }
            return true;
        }

        private boolean redoBack() {
            int entry = nextInt();
            int day = nextInt();
            if (!isReadWhole() || books.refusesBack(entry, day, lines) != ACCEPTED) {
                return false;
            }
            books.turnBack(entry, day, lines);
            return true;
        }

        private boolean redoClose() {
            if (!isReadWhole() || books.refusesClose(lines) != ACCEPTED) {
                return false;
            }
            books.closePeriod(lines);
            return true;
        }

        private boolean redoReopen() {
            if (!isReadWhole() || books.refusesReopen(lines) != ACCEPTED) {
                return false;
            }
            books.reopenPeriod(lines);
            return true;
        }

        private boolean isReadWhole() {
            return !faulty && at == end;
        }

        private boolean nextFlag() {
            long v = nextNumber();
            if (v != 0 && v != 1) {
                faulty = true;
            }
            return v == 1;
        }

        private int nextInt() {
            long v = nextNumber();
            if (v != (int) v) {
                faulty = true;
            }
            return (int) v;
        }

        private long nextNumber() {
            long z = 0;
            for (int i = 0; i < MOST_NUMBER && at < end; i++) {
                int b = journal.bytes.at(at);
                at++;
                // Of the tenth byte only one bit has room in a long.
                if (i == MOST_NUMBER - 1 && b > 1) {
                    break;
                }
                z |= (long) (b & 127) << (7 * i);
                if (b < 128) {
                    return (z >>> 1) ^ -(z & 1);
                }
            }
            faulty = true;
            return 0;
        }
    }

    /** The sheet: rows of bytes about the accounts. */
    private static final class Sheet {
        private static final char[] LETTERS = {'A', 'D', 'O', 'I', 'C'};
        final Ints bytes = new Ints(MOST_SHEET);
        private final Accounts accounts;
        private final Ints figures = new Ints(MOST_FIGURES);
        int size;

        Sheet(Accounts accounts) {
            this.accounts = accounts;
        }

        void clear() {
            size = 0;
        }

        /** False if there is no room for all of it: then the sheet is empty. */
        boolean write(int way) {
            clear();
            if (way == 0) {
                writeLeaves();
            } else if (way == 1) {
                for (int kind = 0; kind < KINDS; kind++) {
                    writeUnder(this, NONE, kind, 0);
                }
            } else {
                writeKinds();
            }
            if (size > MOST_SHEET) {
                clear();
                return false;
            }
            return true;
        }

        private void writeLeaves() {
            for (int i = 0; i < accounts.size; i++) {
                int account = accounts.byCode.at(i);
                if (accounts.isLeaf(account) && accounts.balances.at(account) != 0) {
                    writeRow(account);
                }
            }
        }

        private static void writeUnder(Sheet sheet, int parent, int kind, int depth) {
            if (depth > MOST_DEPTH) {
                return;
            }
            Accounts all = sheet.accounts;
            for (int i = 0; i < all.size; i++) {
                int account = all.byCode.at(i);
                if (all.parents.at(account) == parent && all.kinds.at(account) == kind) {
                    sheet.writeRow(account);
                    writeUnder(sheet, account, kind, depth + 1);
                }
            }
        }

        private void writeKinds() {
            long together = 0;
            for (int kind = 0; kind < KINDS; kind++) {
                long total = accounts.totalOfKind(kind);
                together += total;
                writeTotal(kind < LETTERS.length ? LETTERS[kind] : ' ', total);
            }
            writeTotal('=', together);
        }

        private void writeTotal(char sign, long total) {
            put(sign);
            put(' ');
            putMoney(total);
            put('\n');
        }

        private void writeRow(int account) {
            for (int i = 0; i < accounts.depths.at(account); i++) {
                put(' ');
                put(' ');
            }
            int code = accounts.codes.at(account);
            put('0' + code / 1000 % 10);
            put('0' + code / 100 % 10);
            put('0' + code / 10 % 10);
            put('0' + code % 10);
            put(' ');
            putMoney(accounts.totalUnder(account, accounts.balances));
            put('\n');
        }

        private void putMoney(long v) {
            if (v < 0) {
                put('-');
            }
            long left = Math.abs(v);
            int many = 0;
            while (many < MOST_FIGURES && (many < 3 || left > 0)) {
                figures.put(many, (int) (left % 10));
                left /= 10;
                many++;
            }
            for (int i = many - 1; i >= 0; i--) {
                put('0' + figures.at(i));
                if (i == 2) {
                    put('.');
                } else if (i > 2 && (i - 2) % 3 == 0) {
                    put(',');
                }
            }
        }

        private void put(int b) {
            bytes.put(size, b);
            size++;
        }
    }
}
