import java.math.BigInteger;
import java.util.ArrayList;
import java.util.List;
import java.util.regex.Matcher;
import java.util.regex.Pattern;

/** The document once more, told as plainly as can be and by other ways: nothing is kept but lines and bytes. */
final class Model {
    static final int NONE = -1;
    private static final String[] NAMES = {"small", "pratt", "part", "lucas", "both"};
    private static final Pattern TOKEN = Pattern.compile("[a-z]+|[0-9]+|[^ ]", Pattern.DOTALL);

    static final class Row {
        int q;
        int e;
        int base;

        Row(int q, int e, int base) {
            this.q = q;
            this.e = e;
            this.base = base;
        }
    }

    static final class Entry {
        int n;
        int sort;
        int p;
        int q;
        List<Row> down = new ArrayList<>();
        List<Row> up = new ArrayList<>();

        List<Row> side(boolean upward) {
            return upward ? up : down;
        }
    }

    List<Entry> lines = new ArrayList<>();
    StringBuilder tape = new StringBuilder();

    // ---- numbers

    static boolean number(long n) {
        return 2 <= n && n <= 1_000_000_000;
    }

    static boolean isPrime(long n) {
        return n >= 2 && BigInteger.valueOf(n).isProbablePrime(60);
    }

    static List<Row> factors(long n) {
        List<Row> all = new ArrayList<>();
        long rest = n;
        for (long d = 2; d * d <= rest; d++) {
            int e = 0;
            while (rest % d == 0) {
                rest /= d;
                e++;
            }
            if (e > 0) {
                all.add(new Row((int) d, e, 0));
            }
        }
        if (rest > 1) {
            all.add(new Row((int) rest, 1, 0));
        }
        return all;
    }

    static BigInteger big(long v) {
        return BigInteger.valueOf(v);
    }

    static long pow(long a, long k, long m) {
        return big(a).modPow(big(k), big(m)).longValueExact();
    }

    static long gcd(long a, long b) {
        return big(a).gcd(big(b)).longValueExact();
    }

    /** By the matrix of the rule, squared again and again. */
    static long sequence(long p, long q, long k, long m) {
        BigInteger mod = big(m);
        BigInteger[] power = {BigInteger.ONE, BigInteger.ZERO, BigInteger.ZERO, BigInteger.ONE};
        BigInteger[] step = {big(p), big(-q), BigInteger.ONE, BigInteger.ZERO};
        for (long left = k; left > 0; left /= 2) {
            if (left % 2 == 1) {
                power = times(power, step, mod);
            }
            step = times(step, step, mod);
        }
        return power[2].mod(mod).longValueExact();
    }

    private static BigInteger[] times(BigInteger[] a, BigInteger[] b, BigInteger m) {
        return new BigInteger[] {
            a[0].multiply(b[0]).add(a[1].multiply(b[2])).mod(m), a[0].multiply(b[1]).add(a[1].multiply(b[3])).mod(m),
            a[2].multiply(b[0]).add(a[3].multiply(b[2])).mod(m), a[2].multiply(b[1]).add(a[3].multiply(b[3])).mod(m)};
    }

    /** By the rule of Euler for each prime of m. */
    static int jacobiOf(long a, long m) {
        int sign = 1;
        for (Row f : factors(m)) {
            long left = pow(Math.floorMod(a, (long) f.q), (f.q - 1) / 2, f.q);
            int one = left == 0 ? 0 : left == 1 ? 1 : -1;
            for (int i = 0; i < f.e; i++) {
                sign *= one;
            }
        }
        return sign;
    }

    static boolean strong(long n, long a) {
        long s = n - 1;
        while (s % 2 == 0) {
            s /= 2;
        }
        if (pow(a, s, n) == 1) {
            return true;
        }
        for (long k = s; k < n - 1; k *= 2) {
            if (pow(a, k, n) == n - 1) {
                return true;
            }
        }
        return false;
    }

    // ---- faults

    static BigInteger product(List<Row> rows) {
        BigInteger f = BigInteger.ONE;
        for (Row r : rows) {
            f = f.multiply(big(r.q).pow(r.e));
        }
        return f;
    }

    private static boolean repeats(List<Row> rows) {
        return rows.stream().map(r -> r.q).distinct().count() < rows.size();
    }

    static boolean shapeBad4(Entry l) {
        BigInteger n = big(l.n);
        BigInteger f = product(l.down);
        BigInteger g = product(l.up);
        if (l.sort == 2) {
            return f.multiply(f).compareTo(n) <= 0;
        }
        if (l.sort != 4) {
            return false;
        }
        BigInteger m = f.multiply(g).divide(f.gcd(g));
        if (m.multiply(m).compareTo(n) <= 0) {
            return true;
        }
        BigInteger r = n.mod(m);
        return r.compareTo(BigInteger.ONE) > 0 && r.compareTo(n) < 0 && n.mod(r).signum() == 0;
    }

    private static boolean shapeBad3(Entry l) {
        BigInteger less = big(l.n - 1L);
        BigInteger more = big(l.n + 1L);
        BigInteger f = product(l.down);
        BigInteger g = product(l.up);
        switch (l.sort) {
            case 1: return !f.equals(less);
            case 2: return less.mod(f).signum() != 0;
            case 3: return !g.equals(more);
            default: return less.mod(f).signum() != 0 || more.mod(g).signum() != 0;
        }
    }

    static boolean bad5(Entry l, Row r) {
        return pow(r.base, l.n - 1, l.n) != 1;
    }

    static boolean bad6(Entry l, Row r) {
        return gcd(pow(r.base, (l.n - 1) / r.q, l.n) - 1, l.n) != 1;
    }

    static int fault789(Entry l) {
        if (jacobiOf((long) l.p * l.p - 4L * l.q, l.n) != -1 || gcd(l.q, l.n) != 1) {
            return 7;
        }
        if (sequence(l.p, l.q, l.n + 1L, l.n) != 0) {
            return 8;
        }
        for (Row r : l.up) {
            if (gcd(sequence(l.p, l.q, (l.n + 1L) / r.q, l.n), l.n) != 1) {
                return 9;
            }
        }
        return 0;
    }

    /** The fault of a line, lines ahead being right as told here. */
    int fault(int at, boolean[] right) {
        Entry l = lines.get(at);
        if (l.sort == 0 ? !(l.n < 100 && isPrime(l.n)) : l.n % 2 == 0) {
            return 1;
        }
        if (l.sort == 0) {
            return 0;
        }
        if (repeats(l.down) || repeats(l.up)) {
            return 2;
        }
        for (boolean up : new boolean[] {false, true}) {
            for (Row r : l.side(up)) {
                if (ahead(at, r.q, right) < 0) {
                    return 2;
                }
            }
        }
        if (shapeBad3(l)) {
            return 3;
        }
        if (shapeBad4(l)) {
            return 4;
        }
        for (Row r : l.down) {
            if (bad5(l, r)) {
                return 5;
            }
        }
        for (Row r : l.down) {
            if (bad6(l, r)) {
                return 6;
            }
        }
        return l.sort >= 3 ? fault789(l) : 0;
    }

    int ahead(int at, int q, boolean[] right) {
        for (int i = 0; i < at; i++) {
            if (right[i] && lines.get(i).n == q) {
                return i;
            }
        }
        return -2;
    }

    /** Which lines are right, but for one that is taken as not right (NONE: for none). */
    boolean[] rights(int but) {
        boolean[] right = new boolean[lines.size()];
        for (int i = 0; i < right.length; i++) {
            right[i] = i != but && fault(i, right) == 0;
        }
        return right;
    }

    static long bits(boolean[] some) {
        long bits = 0;
        for (int i = 0; i < some.length; i++) {
            bits |= some[i] ? 1L << i : 0;
        }
        return bits;
    }

    // ---- found

    static Entry laid(int n, int sort) {
        if (!isPrime(n) || (sort == 0 ? n >= 100 : n == 2)) {
            return null;
        }
        Entry l = new Entry();
        l.n = n;
        l.sort = sort;
        List<Row> below = factors(n - 1L);
        List<Row> above = factors(n + 1L);
        if (sort == 1) {
            l.down = below;
        } else if (sort == 2) {
            while (shapeBad4(l)) {
                l.down.add(below.remove(below.size() - 1));
            }
        } else if (sort == 3) {
            l.up = above;
        } else if (sort == 4) {
            for (boolean up = false; shapeBad4(l); up = !up) {
                List<Row> from = up ? above : below;
                if (!from.isEmpty()) {
                    l.side(up).add(from.remove(from.size() - 1));
                }
            }
        }
        return l;
    }

    static Entry found(int n, int sort) {
        Entry l = laid(n, sort);
        if (l == null) {
            return null;
        }
        if (sort == 1) {
            int base = 2;
            for (boolean bad = true; bad; base++) {
                bad = false;
                for (Row r : l.down) {
                    r.base = base;
                    bad = bad || bad5(l, r) || bad6(l, r);
                }
                if (base > 999) {
                    return null;
                }
            }
        } else if (sort == 2 || sort == 4) {
            for (Row r : l.down) {
                r.base = 2;
                while (r.base < 1000 && (bad5(l, r) || bad6(l, r))) {
                    r.base++;
                }
                if (r.base == 1000) {
                    return null;
                }
            }
        }
        if (sort >= 3) {
            for (l.p = 1; l.p <= 99; l.p++) {
                for (l.q = 1; l.q <= 99; l.q++) {
                    if (fault789(l) == 0) {
                        return l;
                    }
                }
            }
            return null;
        }
        return l;
    }

    /** Lines to come, in their order, for a prime that has none; false: none is found. */
    private boolean come(int n, int sort, List<Entry> all) {
        Entry l = found(n, sort);
        if (l == null) {
            return false;
        }
        for (boolean up : new boolean[] {false, true}) {
            for (Row r : l.side(up)) {
                boolean there = all.stream().anyMatch(o -> o.n == r.q) || proof(r.q) >= 0;
                if (!there && !come(r.q, r.q < 100 ? 0 : 1, all)) {
                    return false;
                }
            }
        }
        all.add(l);
        return true;
    }

    // ---- lines come

    int find(int n, int sort) {
        if (!number(n) || sort < 0 || sort > 4) {
            return NONE;
        }
        boolean[] right = rights(NONE);
        for (int i = 0; i < right.length; i++) {
            if (right[i] && lines.get(i).n == n && lines.get(i).sort == sort) {
                return i;
            }
        }
        List<Entry> all = new ArrayList<>();
        if (!come(n, sort, all)) {
            return -2;
        }
        if (lines.size() + all.size() > 60) {
            return -3;
        }
        lines.addAll(all);
        return lines.size() - 1;
    }

    int feed(int... five) {
        if (tape.length() + 20 > 400) {
            return NONE;
        }
        for (int v : five) {
            for (int k = 3; k >= 0; k--) {
                tape.append((char) (v >> 8 * k & 255));
            }
        }
        return tape.length();
    }

    int back(int n) {
        if (n < 0 || n > tape.length()) {
            return NONE;
        }
        tape.setLength(tape.length() - n);
        return tape.length();
    }

    private static final class Fault extends Exception {
        private static final long serialVersionUID = 1L;
        final int at;

        Fault(int at) {
            this.at = at;
        }
    }

    private List<String> tokens;
    private List<Integer> places;
    private int next;
    private int length;

    private void split(String text) {
        tokens = new ArrayList<>();
        places = new ArrayList<>();
        next = 0;
        length = text.length();
        Matcher m = TOKEN.matcher(text);
        int last = -1;
        boolean wordy = false;
        while (m.find()) {
            boolean now = Character.isLetterOrDigit(m.group().charAt(0)) && m.group().charAt(0) < 128;
            boolean glued = now && wordy && last == m.start();
            tokens.add(glued ? "?" : m.group());
            places.add(m.start());
            last = m.end();
            wordy = now;
        }
    }

    private String peek() {
        return next < tokens.size() ? tokens.get(next) : "";
    }

    private Fault here() {
        return new Fault(next < tokens.size() ? places.get(next) : length);
    }

    private void must(String s) throws Fault {
        if (!peek().equals(s)) {
            throw here();
        }
        next++;
    }

    private int integer(long least, long most) throws Fault {
        String s = peek();
        if (!s.matches("[0-9]{1,10}") || Long.parseLong(s) < least || Long.parseLong(s) > most) {
            throw here();
        }
        next++;
        return (int) Long.parseLong(s);
    }

    private void rows(List<Row> to, boolean based, int base) throws Fault {
        while (peek().matches("[0-9]+")) {
            if (to.size() == 9) {
                throw here();
            }
            int q = integer(2, 1_000_000_000);
            int e = integer(1, 30);
            to.add(new Row(q, e, based ? integer(2, 999) : base));
        }
    }

    private Entry told() throws Fault {
        Entry l = new Entry();
        l.sort = List.of(NAMES).indexOf(peek());
        if (l.sort < 0) {
            throw here();
        }
        next++;
        l.n = integer(2, 1_000_000_000);
        if (l.sort >= 3) {
            must("with");
            l.p = integer(1, 99);
            l.q = integer(1, 99);
        }
        if (l.sort == 1) {
            must("base");
            int base = integer(2, 999);
            must("by");
            rows(l.down, false, base);
        } else if (l.sort == 2) {
            must("by");
            rows(l.down, true, 0);
        } else if (l.sort == 3) {
            must("by");
            rows(l.up, false, 0);
        } else if (l.sort == 4) {
            must("down");
            rows(l.down, true, 0);
            must("up");
            rows(l.up, false, 0);
        }
        must(";");
        return l;
    }

    int read() {
        split(tape.toString());
        tape.setLength(0);
        List<Entry> all = new ArrayList<>();
        try {
            while (next < tokens.size()) {
                all.add(told());
            }
        } catch (Fault f) {
            return -4 - f.at;
        }
        if (lines.size() + all.size() > 60) {
            return -3;
        }
        lines.addAll(all);
        return all.size();
    }

    // ---- lines altered

    boolean has(int i) {
        return 0 <= i && i < lines.size();
    }

    boolean hasRow(int i, boolean up, int k) {
        return has(i) && 0 <= k && k < lines.get(i).side(up).size();
    }

    int set(int line, int what, int v) {
        if (!has(line) || what < 0 || what > 2) {
            return NONE;
        }
        Entry l = lines.get(line);
        if (what == 0 ? !number(v) : l.sort < 3 || v < 1 || v > 99) {
            return NONE;
        }
        int was = what == 0 ? l.n : what == 1 ? l.p : l.q;
        if (what == 0) {
            l.n = v;
        } else if (what == 1) {
            l.p = v;
        } else {
            l.q = v;
        }
        return was;
    }

    int alter(int line, boolean up, int i, int what, int v) {
        if (!hasRow(line, up, i)) {
            return NONE;
        }
        Row r = lines.get(line).side(up).get(i);
        int was = NONE;
        if (what == 0 && number(v)) {
            was = r.q;
            r.q = v;
        } else if (what == 1 && v >= 1 && v <= 30) {
            was = r.e;
            r.e = v;
        } else if (what == 2 && !up && v >= 2 && v <= 999) {
            was = r.base;
            r.base = v;
        }
        return was;
    }

    int cut(int line, boolean up, int i) {
        if (!hasRow(line, up, i)) {
            return NONE;
        }
        lines.get(line).side(up).remove(i);
        return lines.get(line).side(up).size();
    }

    int move(int line, int to) {
        if (!has(line) || !has(to) || line == to) {
            return NONE;
        }
        lines.add(to, lines.remove(line));
        return rights(NONE)[to] ? 1 : 0;
    }

    int mend(int line) {
        if (!has(line)) {
            return NONE;
        }
        Entry better = found(lines.get(line).n, lines.get(line).sort);
        if (better == null) {
            return -2;
        }
        lines.set(line, better);
        return fault(line, rights(NONE));
    }

    int prune(int line) {
        long kept = rests(line);
        if (kept < 0) {
            return (int) kept;
        }
        List<Entry> left = new ArrayList<>();
        for (int i = 0; i < lines.size(); i++) {
            if ((kept >> i & 1) == 1) {
                left.add(lines.get(i));
            }
        }
        lines = left;
        return left.size();
    }

    int drop() {
        if (lines.isEmpty()) {
            return NONE;
        }
        lines.remove(lines.size() - 1);
        return lines.size();
    }

    int clear() {
        int were = lines.size();
        lines.clear();
        return were;
    }

    // ---- lines checked

    int line(int line, int what) {
        if (!has(line) || what < 0 || what > 6) {
            return NONE;
        }
        Entry l = lines.get(line);
        int[] all = {l.n, l.sort, l.p, l.q, l.down.size(), l.up.size(), fault(line, rights(NONE))};
        return all[what];
    }

    int row(int line, boolean up, int i, int what) {
        if (!hasRow(line, up, i) || what < 0 || what > 3) {
            return NONE;
        }
        Row r = lines.get(line).side(up).get(i);
        int[] all = {r.q, r.e, r.base, ahead(line, r.q, rights(NONE))};
        return all[what];
    }

    long right() {
        return bits(rights(NONE));
    }

    private List<Integer> restsOn(int line, boolean[] right) {
        List<Integer> on = new ArrayList<>();
        for (boolean up : new boolean[] {false, true}) {
            for (Row r : lines.get(line).side(up)) {
                on.add(ahead(line, r.q, right));
            }
        }
        return on;
    }

    private long restBits(int line, boolean[] right) {
        long bits = 1L << line;
        for (int on : restsOn(line, right)) {
            bits |= restBits(on, right);
        }
        return bits;
    }

    private int depth(int line, boolean[] right) {
        int deepest = -1;
        for (int on : restsOn(line, right)) {
            deepest = Math.max(deepest, depth(on, right));
        }
        return deepest + 1;
    }

    long rests(int line) {
        if (!has(line)) {
            return NONE;
        }
        boolean[] right = rights(NONE);
        return right[line] ? restBits(line, right) : -2;
    }

    int deep(int line) {
        if (!has(line)) {
            return NONE;
        }
        boolean[] right = rights(NONE);
        return right[line] ? depth(line, right) : -2;
    }

    long falls(int line) {
        if (!has(line)) {
            return NONE;
        }
        boolean[] right = rights(NONE);
        return right[line] ? bits(right) & ~bits(rights(line)) : -2;
    }

    private static int digitCost(int k) {
        String s = Integer.toString(k, 2);
        return s.length() + s.replace("0", "").length() - 2;
    }

    private static int costOf(Entry l) {
        return l.down.stream().mapToInt(r -> digitCost(l.n - 1) + digitCost((l.n - 1) / r.q)).sum();
    }

    int cost(int line) {
        if (!has(line)) {
            return NONE;
        }
        return rights(NONE)[line] ? costOf(lines.get(line)) : -2;
    }

    int loose(int line, int i) {
        if (!hasRow(line, false, i)) {
            return NONE;
        }
        if (!rights(NONE)[line]) {
            return -2;
        }
        Entry l = lines.get(line);
        Row r = l.down.get(i);
        int was = r.base;
        int good = 0;
        for (r.base = 2; r.base <= 999; r.base++) {
            good += !bad5(l, r) && !bad6(l, r) ? 1 : 0;
        }
        r.base = was;
        return good;
    }

    long shared(int line, int other) {
        if (!has(line) || !has(other)) {
            return NONE;
        }
        long a = rests(line);
        long b = rests(other);
        return a < 0 || b < 0 ? -2 : a & b;
    }

    private static String told(List<Row> rows, boolean based) {
        StringBuilder s = new StringBuilder();
        for (Row r : rows) {
            s.append(" ").append(r.q).append(" ").append(r.e).append(based ? " " + r.base : "");
        }
        return s.toString();
    }

    String text(int line) {
        Entry l = lines.get(line);
        String head = NAMES[l.sort] + " " + l.n;
        switch (l.sort) {
            case 0: return head + ";";
            case 1: return head + " base " + (l.down.isEmpty() ? 2 : l.down.get(0).base) + " by" + told(l.down, false) + ";";
            case 2: return head + " by" + told(l.down, true) + ";";
            case 3: return head + " with " + l.p + " " + l.q + " by" + told(l.up, false) + ";";
            default:
                return head + " with " + l.p + " " + l.q + " down" + told(l.down, true) + " up" + told(l.up, false) + ";";
        }
    }

    int spell(int line, int i) {
        if (!has(line)) {
            return NONE;
        }
        String s = text(line);
        return i == NONE ? s.length() : i >= 0 && i < s.length() ? s.charAt(i) : NONE;
    }

    int proof(int n) {
        return number(n) ? ahead(lines.size(), n, rights(NONE)) : NONE;
    }

    // ---- numbers by themselves

    int prime(int n, int i) {
        if (!number(n)) {
            return NONE;
        }
        List<Row> all = factors(n);
        return i == NONE ? all.size() : i >= 0 && i < all.size() ? all.get(i).q : NONE;
    }

    int often(int n, int by) {
        if (!number(n) || !number(by)) {
            return NONE;
        }
        int times = 0;
        while (big(n).mod(big(by).pow(times + 1)).signum() == 0) {
            times++;
        }
        return times;
    }

    int needs(int n, int sort) {
        if (!number(n) || sort < 1 || sort > 4) {
            return NONE;
        }
        Entry l = laid(n, sort);
        return l == null ? -2 : 10 * l.down.size() + l.up.size();
    }

    int fewest(int n) {
        int best = number(n) ? -2 : NONE;
        for (int sort = 4; best != NONE && sort >= 1; sort--) {
            int now = needs(n, sort);
            int then = best == -2 ? 99 : needs(n, best);
            if (now >= 0 && now / 10 + now % 10 <= then / 10 + then % 10) {
                best = sort;
            }
        }
        return best;
    }

    int next(int n) {
        if (n < 0 || n > 999_999_936) {
            return NONE;
        }
        return big(n).nextProbablePrime().intValueExact();
    }

    int smooth(int n, int bound) {
        if (!number(n) || bound < 0) {
            return NONE;
        }
        List<Row> all = factors(n);
        all.removeIf(r -> r.q > bound);
        return product(all).intValueExact();
    }

    int bound(int n) {
        if (!number(n) || n < 3) {
            return NONE;
        }
        for (Row r : factors(n - 1)) {
            long s = smooth(n - 1, r.q);
            if (s * s > n) {
                return r.q;
            }
        }
        return -99;
    }

    int chase(int n, int c) {
        if (!number(n) || c < 1 || c > 99) {
            return NONE;
        }
        BigInteger x = big(2);
        BigInteger y = big(2);
        for (int i = 0; i < 1000; i++) {
            x = x.multiply(x).add(big(c)).mod(big(n));
            for (int k = 0; k < 2; k++) {
                y = y.multiply(y).add(big(c)).mod(big(n));
            }
            BigInteger g = x.subtract(y).gcd(big(n));
            if (!g.equals(BigInteger.ONE)) {
                return g.intValueExact();
            }
        }
        return -2;
    }

    int primes(int from, int to) {
        if (from < 0 || to < from || to >= from + 1000L || to > 1_000_000_000) {
            return NONE;
        }
        int found = 0;
        for (int n = from; n <= to; n++) {
            found += isPrime(n) ? 1 : 0;
        }
        return found;
    }

    int passes(int n, int a) {
        if (!number(n) || n % 2 == 0 || a < 2 || a > 999 || a >= n) {
            return NONE;
        }
        return strong(n, a) ? 1 : 0;
    }

    int fools(int n, int what) {
        if (!number(n) || n % 2 == 0 || what < 0 || what > 1) {
            return NONE;
        }
        int passing = 0;
        int first = 0;
        for (int a = 2; a <= 999 && a < n; a++) {
            if (strong(n, a)) {
                passing++;
            } else if (first == 0) {
                first = a;
            }
        }
        return what == 0 ? passing : first;
    }

    int power(int a, int k, int m) {
        return a < 0 || k < 0 || m < 1 ? NONE : (int) pow(a, k, m);
    }

    int order(int a, int m) {
        if (a < 0 || m < 2 || m > 1_000_000) {
            return NONE;
        }
        if (gcd(a, m) != 1) {
            return -2;
        }
        int k = 1;
        for (long x = a % m; x != 1; x = x * a % m) {
            k++;
        }
        return k;
    }

    int jacobi(int a, int m) {
        return m < 1 || m % 2 == 0 ? -2 : jacobiOf(a, m);
    }

    int u(int p, int q, int k, int m) {
        if (p < 1 || p > 99 || q < 1 || q > 99 || k < 0 || m < 1 || m > 1_000_000_000) {
            return NONE;
        }
        return (int) sequence(p, q, k, m);
    }

    int units(int m) {
        if (m < 1 || m > 1_000_000_000) {
            return NONE;
        }
        long units = 1;
        for (Row r : factors(m)) {
            units *= r.q - 1;
            for (int i = 1; i < r.e; i++) {
                units *= r.q;
            }
        }
        return (int) units;
    }

    int count(int what) {
        boolean[] right = rights(NONE);
        int rows = 0;
        int greatest = 0;
        int deepest = 0;
        int cost = 0;
        for (int i = 0; i < right.length; i++) {
            rows += lines.get(i).down.size() + lines.get(i).up.size();
            if (right[i]) {
                greatest = Math.max(greatest, lines.get(i).n);
                deepest = Math.max(deepest, depth(i, right));
                cost += costOf(lines.get(i));
            }
        }
        int[] all = {lines.size(), Long.bitCount(bits(right)), rows, tape.length(), greatest, deepest, cost};
        return what >= 0 && what < all.length ? all[what] : NONE;
    }
}
