import java.math.BigInteger;
import java.util.ArrayList;
import java.util.Comparator;
import java.util.List;

/** The document once more, as slow and as plain as can be: nothing is kept that can be counted anew. */
final class Model {
    static final long LEAST = Long.MIN_VALUE;
    private static final BigInteger MOST_AMOUNT = BigInteger.TEN.pow(15);
    private static final BigInteger MOST_BALANCE = BigInteger.TEN.pow(16);

    private record Account(int code, int kind, int parent, boolean group) {
    }

    private record Line(int account, BigInteger amount) {
    }

    private record Entry(int day, int tag, int sort, List<Line> lines, int source) {
    }

    private List<Account> accounts = new ArrayList<>();
    private List<Boolean> shuts = new ArrayList<>();
    private List<Integer> lastDays = new ArrayList<>();
    private List<Integer> closings = new ArrayList<>();
    private List<Boolean> closed = new ArrayList<>();
    private List<Entry> entries = new ArrayList<>();
    private List<Line> draft = new ArrayList<>();
    private List<Integer> journal = new ArrayList<>();
    private String sheet = "";
    private int most = 6000;
    private int durable = 0;
    private int records = 0;
    private int owner = -1;
    private boolean up = true;

    // ---- what is asked of the books

    private boolean has(int account) {
        return account >= 0 && account < accounts.size();
    }

    private boolean leaf(int account) {
        return !accounts.get(account).group();
    }

    private int depth(int account) {
        int parent = accounts.get(account).parent();
        return parent < 0 ? 0 : 1 + depth(parent);
    }

    private boolean under(int account, int above) {
        return account == above || account >= 0 && under(accounts.get(account).parent(), above);
    }

    private BigInteger total(int account, int from, int to) {
        BigInteger total = BigInteger.ZERO;
        for (Entry e : entries) {
            if (e.day() >= from && e.day() <= to) {
                for (Line l : e.lines()) {
                    if (under(l.account(), account)) {
                        total = total.add(l.amount());
                    }
                }
            }
        }
        return total;
    }

    private BigInteger total(int account) {
        return total(account, 0, 9999);
    }

    private int firstDay(int period) {
        return period == 0 ? 0 : lastDays.get(period - 1) + 1;
    }

    private int periodWith(int day) {
        for (int p = 0; p < lastDays.size(); p++) {
            if (day >= firstDay(p) && day <= lastDays.get(p)) {
                return p;
            }
        }
        return -1;
    }

    private List<Integer> byCodes() {
        List<Integer> all = new ArrayList<>();
        for (int a = 0; a < accounts.size(); a++) {
            all.add(a);
        }
        all.sort(Comparator.comparingInt(a -> accounts.get(a).code()));
        return all;
    }

    private static boolean amount(long v) {
        return v != 0 && BigInteger.valueOf(v).abs().compareTo(MOST_AMOUNT) <= 0;
    }

    // ---- the journal

    private static List<Integer> numbers(long... all) {
        List<Integer> bytes = new ArrayList<>();
        for (long v : all) {
            BigInteger z = BigInteger.valueOf(v).multiply(BigInteger.TWO);
            z = v < 0 ? z.negate().subtract(BigInteger.ONE) : z;
            while (z.bitLength() > 7) {
                bytes.add(z.intValue() % 128 < 0 ? z.intValue() % 128 + 256 : z.intValue() % 128 + 128);
                z = z.shiftRight(7);
            }
            bytes.add(z.intValue());
        }
        return bytes;
    }

    private static int check(List<Integer> bytes) {
        int c = 65535;
        for (int b : bytes) {
            c ^= 256 * b;
            for (int i = 0; i < 8; i++) {
                c = (c >> 15 & 1) == 1 ? 2 * c ^ 4129 : 2 * c;
            }
            c %= 65536;
        }
        return c;
    }

    private boolean write(int sort, List<Integer> body) {
        List<Integer> record = new ArrayList<>();
        record.add(body.size());
        record.add(sort);
        record.addAll(body);
        int c = check(record);
        record.add(c / 256);
        record.add(c % 256);
        if (journal.size() + record.size() > most) {
            return false;
        }
        journal.addAll(record);
        records++;
        return true;
    }

    // ---- the calls

    int account(int code, int kind, int parent, boolean group) {
        if (!up) {
            return -6;
        }
        if (parent != -1 && !has(parent)) {
            return -2;
        }
        if (code < 1 || code > 9999 || kind < 0 || kind > 4) {
            return -3;
        }
        if (parent != -1 && (leaf(parent) || accounts.get(parent).kind() != kind || depth(parent) == 5)) {
            return -4;
        }
        if (accounts.stream().anyMatch(a -> a.code() == code)) {
            return -5;
        }
        if (accounts.size() == 60 || !write(1, numbers(code, kind, parent, group ? 1 : 0))) {
            return -13;
        }
        accounts.add(new Account(code, kind, parent, group));
        shuts.add(false);
        return accounts.size() - 1;
    }

    int shut(int account, boolean on) {
        if (!up) {
            return -6;
        }
        if (!has(account)) {
            return -2;
        }
        if (!leaf(account)) {
            return -4;
        }
        if (shuts.get(account) == on) {
            return -6;
        }
        if (!write(2, numbers(account, on ? 1 : 0))) {
            return -13;
        }
        return shuts.set(account, on) ? 1 : 0;
    }

    int period(int lastDay) {
        if (!up) {
            return -6;
        }
        if (lastDay < firstDay(lastDays.size()) || lastDay > 9999) {
            return -3;
        }
        if (lastDays.size() == 24 || !write(3, numbers(lastDay))) {
            return -13;
        }
        lastDays.add(lastDay);
        closed.add(false);
        closings.add(-1);
        return lastDays.size() - 1;
    }

    int owner(int account) {
        if (!up) {
            return -6;
        }
        if (!has(account)) {
            return -2;
        }
        if (!leaf(account) || accounts.get(account).kind() != 2) {
            return -4;
        }
        if (!write(4, numbers(account))) {
            return -13;
        }
        int before = owner;
        owner = account;
        return before;
    }

    int line(int account, long v) {
        if (!up) {
            return -6;
        }
        if (!has(account)) {
            return -2;
        }
        if (!amount(v)) {
            return -3;
        }
        if (!leaf(account)) {
            return -4;
        }
        if (draft.size() == 8) {
            return -13;
        }
        draft.add(new Line(account, BigInteger.valueOf(v)));
        return draft.size();
    }

    int drop() {
        if (!up) {
            return -6;
        }
        int had = draft.size();
        draft = new ArrayList<>();
        return had;
    }

    private boolean over(List<Line> lines) {
        for (Line l : lines) {
            BigInteger balance = total(l.account());
            for (Line m : lines) {
                if (m.account() == l.account()) {
                    balance = balance.add(m.amount());
                }
            }
            if (balance.abs().compareTo(MOST_BALANCE) > 0) {
                return true;
            }
        }
        return false;
    }

    private static BigInteger together(List<Line> lines) {
        return lines.stream().map(Line::amount).reduce(BigInteger.ZERO, BigInteger::add);
    }

    private int judge(List<Line> lines, int day) {
        if (lines.size() < 2) {
            return -7;
        }
        if (together(lines).signum() != 0) {
            return -8;
        }
        if (periodWith(day) < 0) {
            return -9;
        }
        if (closed.get(periodWith(day))) {
            return -10;
        }
        if (lines.stream().anyMatch(l -> shuts.get(l.account()))) {
            return -11;
        }
        if (over(lines)) {
            return -12;
        }
        return entries.size() == 400 ? -13 : 0;
    }

    private int plain(List<Line> lines, int day, int tag) {
        int refusal = judge(lines, day);
        if (refusal != 0) {
            return refusal;
        }
        List<Integer> body = numbers(day, tag, lines.size());
        for (Line l : lines) {
            body.addAll(numbers(l.account(), l.amount().longValueExact()));
        }
        if (!write(5, body)) {
            return -13;
        }
        entries.add(new Entry(day, tag, 0, lines, -1));
        draft = new ArrayList<>();
        return entries.size() - 1;
    }

    int post(int day, int tag) {
        return up ? plain(draft, day, tag) : -6;
    }

    private List<Line> less(int entry) {
        List<Line> lines = new ArrayList<>();
        for (Line l : entries.get(entry).lines()) {
            lines.add(new Line(l.account(), l.amount().negate()));
        }
        return lines;
    }

    private int backOf(int entry) {
        for (int e = 0; e < entries.size(); e++) {
            if (entries.get(e).sort() == 1 && entries.get(e).source() == entry) {
                return e;
            }
        }
        return -1;
    }

    int back(int entry, int day) {
        if (!up) {
            return -6;
        }
        if (entry < 0 || entry >= entries.size()) {
            return -2;
        }
        if (entries.get(entry).sort() != 0) {
            return -4;
        }
        if (backOf(entry) >= 0) {
            return -5;
        }
        int refusal = judge(less(entry), day);
        if (refusal != 0) {
            return refusal;
        }
        if (!write(6, numbers(entry, day))) {
            return -13;
        }
        entries.add(new Entry(day, entries.get(entry).tag(), 1, less(entry), entry));
        return entries.size() - 1;
    }

    private int own(int sort, List<Line> lines, int period, boolean close) {
        if (over(lines)) {
            return -12;
        }
        if (!lines.isEmpty() && entries.size() == 400 || !write(close ? 7 : 8, numbers())) {
            return -13;
        }
        closed.set(period, close);
        closings.set(period, -1);
        if (!lines.isEmpty()) {
            entries.add(new Entry(lastDays.get(period), 0, sort, lines, period));
            closings.set(period, close ? entries.size() - 1 : -1);
        }
        return period;
    }

    int close() {
        int p = closed.indexOf(false);
        if (!up || p < 0 || owner < 0) {
            return -6;
        }
        List<Line> lines = new ArrayList<>();
        for (int a : byCodes()) {
            BigInteger had = total(a, firstDay(p), lastDays.get(p));
            if (leaf(a) && accounts.get(a).kind() > 2 && had.signum() != 0) {
                lines.add(new Line(a, had.negate()));
            }
        }
        BigInteger rest = together(lines);
        if (rest.signum() != 0) {
            lines.add(new Line(owner, rest.negate()));
        }
        return own(2, lines, p, true);
    }

    int reopen() {
        int p = closed.lastIndexOf(true);
        if (!up || p < 0) {
            return -6;
        }
        return own(3, closings.get(p) < 0 ? List.of() : less(closings.get(p)), p, false);
    }

    private static List<BigInteger> shares(long amount, List<Integer> weights) {
        BigInteger a = BigInteger.valueOf(amount);
        BigInteger s = BigInteger.valueOf(weights.stream().mapToInt(w -> w).sum());
        List<BigInteger> parts = new ArrayList<>();
        List<Integer> order = new ArrayList<>();
        List<BigInteger> sizes = new ArrayList<>();
        BigInteger rest = a;
        for (int w : weights) {
            BigInteger[] cut = a.multiply(BigInteger.valueOf(w)).divideAndRemainder(s);
            order.add(parts.size());
            parts.add(cut[0]);
            sizes.add(cut[1].abs());
            rest = rest.subtract(cut[0]);
        }
        order.sort(Comparator.comparing(i -> sizes.get(i).negate()));
        for (int i = 0; i < rest.abs().intValueExact(); i++) {
            int to = order.get(i);
            parts.set(to, parts.get(to).add(BigInteger.valueOf(rest.signum())));
        }
        return parts;
    }

    int share(int account, long v, int day, int tag) {
        if (!up) {
            return -6;
        }
        if (!has(account)) {
            return -2;
        }
        List<Integer> weights = new ArrayList<>();
        for (Line l : draft) {
            if (l.amount().signum() < 0 || l.amount().compareTo(BigInteger.valueOf(1000)) > 0) {
                return -3;
            }
            weights.add(l.amount().intValueExact());
        }
        if (!amount(v) || draft.size() > 7) {
            return -3;
        }
        if (!leaf(account)) {
            return -4;
        }
        if (draft.isEmpty()) {
            return -6;
        }
        List<BigInteger> parts = shares(v, weights);
        List<Line> lines = new ArrayList<>();
        lines.add(new Line(account, BigInteger.valueOf(-v)));
        for (int i = 0; i < draft.size(); i++) {
            if (parts.get(i).signum() != 0) {
                lines.add(new Line(draft.get(i).account(), parts.get(i)));
            }
        }
        return plain(lines, day, tag);
    }

    int sync() {
        if (!up) {
            return -6;
        }
        int loose = journal.size() - durable;
        durable = journal.size();
        return loose;
    }

    int crash(int n, int by) {
        if (n < 0 || by < 0 || by > 255) {
            return -3;
        }
        long kept = Math.min((long) durable + n, journal.size());
        journal = new ArrayList<>(journal.subList(0, (int) kept));
        if (kept > durable) {
            journal.set((int) kept - 1, journal.get((int) kept - 1) ^ by);
        }
        draft = new ArrayList<>();
        sheet = "";
        up = false;
        return journal.size();
    }

    int recover() {
        if (up) {
            return -6;
        }
        Model fresh = new Model();
        fresh.most = Integer.MAX_VALUE;
        int at = 0;
        while (at + 4 <= journal.size() && at + 4 + journal.get(at) <= journal.size()) {
            int end = at + 2 + journal.get(at);
            boolean right = check(journal.subList(at, end)) == 256 * journal.get(end) + journal.get(end + 1);
            if (!right || !fresh.redo(journal.get(at + 1), new ArrayList<>(journal.subList(at + 2, end)))) {
                break;
            }
            at = end + 2;
        }
        accounts = fresh.accounts;
        shuts = fresh.shuts;
        lastDays = fresh.lastDays;
        closings = fresh.closings;
        closed = fresh.closed;
        entries = fresh.entries;
        owner = fresh.owner;
        records = fresh.records;
        journal = new ArrayList<>(journal.subList(0, at));
        durable = at;
        up = true;
        return records;
    }

    /** Through the calls alone only records come that a call has written, so their numbers need no look. */
    private boolean redo(int sort, List<Integer> body) {
        long a = body.isEmpty() ? 0 : number(body);
        switch (sort) {
            case 1: return account((int) a, (int) number(body), (int) number(body), number(body) == 1) >= 0;
            case 2: return shut((int) a, number(body) == 1) >= 0;
            case 3: return period((int) a) >= 0;
            case 4: return owner((int) a) >= -1;
            case 5:
                int tag = (int) number(body);
                for (long left = number(body); left > 0; left--) {
                    if (line((int) number(body), number(body)) < 0) {
                        return false;
                    }
                }
                return post((int) a, tag) >= 0;
            case 6: return back((int) a, (int) number(body)) >= 0;
            case 7: return close() >= 0;
            case 8: return reopen() >= 0;
            default: return false;
        }
    }

    private static long number(List<Integer> body) {
        BigInteger z = BigInteger.ZERO;
        for (int i = 0;; i += 7) {
            int b = body.remove(0);
            z = z.add(BigInteger.valueOf(b % 128).shiftLeft(i));
            if (b < 128) {
                return (z.testBit(0) ? z.add(BigInteger.ONE).negate() : z).divide(BigInteger.TWO).longValueExact();
            }
        }
    }

    int byteAt(int i) {
        return i >= 0 && i < journal.size() ? journal.get(i) : -2;
    }

    int of(int account, int what) {
        if (!up) {
            return -6;
        }
        if (!has(account)) {
            return -2;
        }
        Account a = accounts.get(account);
        int lines = (int) entries.stream().flatMap(e -> e.lines().stream()).filter(l -> l.account() == account).count();
        int[] all = {a.code(), a.kind(), a.parent(), a.group() ? 1 : 0, shuts.get(account) ? 1 : 0, depth(account),
            lines};
        return what < 0 || what >= all.length ? -3 : all[what];
    }

    long balance(int account) {
        return up && has(account) ? total(account).longValueExact() : LEAST;
    }

    long sum(int account, int from, int to) {
        return up && has(account) ? total(account, from, to).longValueExact() : LEAST;
    }

    int entry(int entry, int what) {
        if (!up) {
            return -6;
        }
        if (entry < 0 || entry >= entries.size()) {
            return -2;
        }
        Entry e = entries.get(entry);
        int[] all = {e.day(), e.tag(), e.sort(), e.lines().size(), backOf(entry), e.source()};
        return what < 0 || what >= all.length ? -3 : all[what];
    }

    long lineOf(int entry, int i, int what) {
        if (!up || entry < 0 || entry >= entries.size() || i < 0 || i >= entries.get(entry).lines().size()) {
            return LEAST;
        }
        Line l = entries.get(entry).lines().get(i);
        return what == 0 ? l.account() : what == 1 ? l.amount().longValueExact() : LEAST;
    }

    long ledger(int account, int i, int what) {
        if (!up || !has(account) || !leaf(account)) {
            return LEAST;
        }
        List<long[]> all = new ArrayList<>();
        BigInteger balance = BigInteger.ZERO;
        for (int e = 0; e < entries.size(); e++) {
            for (Line l : entries.get(e).lines()) {
                if (l.account() == account) {
                    balance = balance.add(l.amount());
                    all.add(new long[] {e, l.amount().longValueExact(), balance.longValueExact()});
                }
            }
        }
        return i < 0 || i >= all.size() || what < 0 || what > 2 ? LEAST : all.get(i)[what];
    }

    int periodOf(int period, int what) {
        if (!up) {
            return -6;
        }
        if (period < 0 || period >= lastDays.size()) {
            return -2;
        }
        int[] all = {firstDay(period), lastDays.get(period), closed.get(period) ? 1 : 0, closings.get(period)};
        return what < 0 || what >= all.length ? -3 : all[what];
    }

    private static String money(BigInteger v) {
        return (v.signum() < 0 ? "-" : "") + String.format("%,d", v.abs().divide(BigInteger.valueOf(100)))
            + String.format(".%02d", v.abs().mod(BigInteger.valueOf(100)));
    }

    private String row(int account) {
        return "  ".repeat(depth(account)) + String.format("%04d ", accounts.get(account).code())
            + money(total(account)) + "\n";
    }

    private String tree(int account) {
        StringBuilder text = new StringBuilder(row(account));
        for (int child : byCodes()) {
            if (accounts.get(child).parent() == account) {
                text.append(tree(child));
            }
        }
        return text.toString();
    }

    int sheet(int way) {
        if (!up) {
            return -6;
        }
        if (way < 0 || way > 2) {
            return -3;
        }
        StringBuilder text = new StringBuilder();
        BigInteger all = BigInteger.ZERO;
        for (int kind = 0; kind < 5; kind++) {
            BigInteger total = BigInteger.ZERO;
            for (int a : byCodes()) {
                boolean inKind = accounts.get(a).kind() == kind;
                if (way == 1 && inKind && accounts.get(a).parent() < 0) {
                    text.append(tree(a));
                }
                total = inKind && leaf(a) ? total.add(total(a)) : total;
            }
            all = all.add(total);
            text.append(way == 2 ? "ADOIC".charAt(kind) + " " + money(total) + "\n" : "");
        }
        text.append(way == 2 ? "= " + money(all) + "\n" : "");
        for (int a : byCodes()) {
            text.append(way == 0 && leaf(a) && total(a).signum() != 0 ? row(a) : "");
        }
        sheet = text.length() > 4000 ? "" : text.toString();
        return text.length() > 4000 ? -13 : sheet.length();
    }

    int shown(int i) {
        if (!up) {
            return -6;
        }
        return i >= 0 && i < sheet.length() ? sheet.charAt(i) : -2;
    }

    long part(long v, int w0, int w1, int w2, int w3, int i) {
        List<Integer> weights = List.of(w0, w1, w2, w3);
        boolean outside = weights.stream().anyMatch(w -> w < 0 || w > 1000) || weights.stream().allMatch(w -> w == 0);
        if (outside || i < 0 || i > 3 || v != 0 && !amount(v)) {
            return LEAST;
        }
        return shares(v, weights).get(i).longValueExact();
    }

    int count(int what) {
        if (what < 0 || what > 10) {
            return -3;
        }
        if (!up && what != 5 && what != 6 && what != 7 && what != 9 && what != 10) {
            return -6;
        }
        int closedOnes = (int) closed.stream().filter(c -> c).count();
        int[] all = {accounts.size(), lastDays.size(), closedOnes, entries.size(), draft.size(), journal.size(),
            durable, records, owner, sheet.length(), up ? 1 : 0};
        return all[what];
    }
}
