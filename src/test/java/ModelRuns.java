import java.util.StringJoiner;

/** Long runs of calls, the same each time, on the class and on the model: all answers must be alike. */
public final class ModelRuns {
    private static final int RUNS = 250;
    private static final int CALLS = 512;
    private static final int[] EDGES = {
        -2, -1, 0, 1, 2, 3, 4, 9, 10, 30, 31, 59, 60, 61, 99, 100, 101, 400, 401, 998, 999, 1000,
        999_999, 1_000_000, 1_000_001, 999_999_936, 999_999_937, 999_999_999, 1_000_000_000, 1_000_000_001,
        Integer.MAX_VALUE, Integer.MIN_VALUE};
    private static final int[] NUMBERS = {
        561, 1105, 1729, 2047, 1373653, 25326001, 223092870, 223092871, 232792561, 735134401, 999_999_893,
        999_999_929, 999_999_937, 536_870_909, 536_870_912, 387_420_489, 1_000_000_000, 514_229, 65_537, 786_433,
        2_147_483_647 / 3, 998_244_353, 31_607, 961_189 - 4, 607, 127, 8191, 131_071, 524_287};

    private static long state;
    private static int wrong;
    private static int callsLeft;

    private static int below(int n) {
        state = state * 6364136223846793005L + 1442695040888963407L;
        return (int) ((state >>> 33) % n);
    }

    private static int anyNumber() {
        switch (below(8)) {
            case 0: return EDGES[below(EDGES.length)];
            case 1: return NUMBERS[below(NUMBERS.length)];
            case 2: return 2 + below(999_999_999);
            case 3: return anyPrime(1_000_000_000);
            case 4: return anyPrime(5000);
            case 5: return 2 + below(3000);
            default: return 2 + below(120);
        }
    }

    private static int anyPrime(int most) {
        int n = 2 + below(most - 2);
        while (!Model.isPrime(n)) {
            n--;
        }
        return n;
    }

    private static int anyLine(Model m) {
        return below(15) == 0 ? EDGES[below(EDGES.length)] : below(m.lines.size() + 1);
    }

    /** A line that has rows, if one of some has. */
    private static int anyLineWithRows(Model m) {
        int line = anyLine(m);
        for (int i = 0; i < 8 && (!m.has(line) || m.lines.get(line).sort == 0); i++) {
            line = anyLine(m);
        }
        return line;
    }

    private static boolean anySide(Model m, int line) {
        if (m.has(line) && below(8) != 0) {
            int sort = m.lines.get(line).sort;
            return sort == 3 || sort == 4 && below(2) == 0;
        }
        return below(2) == 0;
    }

    private static int anyIndex(Model m, int line, boolean up) {
        int rows = m.has(line) ? m.lines.get(line).side(up).size() : 0;
        return below(10) == 0 ? EDGES[below(EDGES.length)] : below(rows + (below(4) == 0 ? 1 : 0) + (rows == 0 ? 1 : 0));
    }

    private static int anyDivisor(Model m, int line, boolean up) {
        if (m.has(line) && below(3) != 0) {
            var all = Model.factors(m.lines.get(line).n + (up ? 1L : -1L));
            if (!all.isEmpty()) {
                return all.get(below(all.size())).q;
            }
        }
        return below(9) == 0 ? anyNumber() : anyPrime(30);
    }

    private static int some(int least, int most) {
        return below(12) == 0 ? EDGES[below(EDGES.length)] : least + below(most - least + 1);
    }

    // ---- texts

    private static String anyRows(boolean based) {
        StringJoiner s = new StringJoiner(" ");
        int rows = below(40) == 0 ? 8 + below(4) : below(4);
        for (int i = 0; i < rows; i++) {
            s.add(below(3) == 0 ? "2" : "" + anyPrime(below(2) == 0 ? 12 : 2000));
            s.add("" + (1 + below(below(6) == 0 ? 31 : 3)));
            if (based) {
                s.add("" + (2 + below(below(9) == 0 ? 1000 : 30)));
            }
        }
        return s.toString();
    }

    private static String anyTold(Model m) {
        if (!m.lines.isEmpty() && below(4) == 0) {
            return m.text(below(m.lines.size()));
        }
        if (below(2) == 0) {
            int n = anyPrime(below(2) == 0 ? 100 : 100_000);
            Model one = new Model();
            one.lines.add(Model.found(n, n < 100 && below(2) == 0 || n == 2 ? 0 : 1 + below(4)));
            return one.text(0);
        }
        if (below(2) == 0) {
            return anyNearlyRight();
        }
        int n = 2 + below(200);
        String pq = " with " + (1 + below(9)) + " " + (1 + below(9));
        switch (below(5)) {
            case 0: return "small " + n + ";";
            case 1: return "pratt " + n + " base " + (2 + below(9)) + " by " + anyRows(false) + ";";
            case 2: return "part " + n + " by " + anyRows(true) + ";";
            case 3: return "lucas " + n + pq + " by " + anyRows(false) + ";";
            default: return "both " + n + pq + " down " + anyRows(true) + " up " + anyRows(false) + ";";
        }
    }

    /** Rows are as they should be, or some of them; the number may be composite. */
    private static String anyNearlyRight() {
        Model.Entry l = new Model.Entry();
        l.n = 3 + 2 * below(below(3) == 0 ? 3000 : 60);
        l.sort = 1 + below(4);
        l.p = 1 + below(12);
        l.q = 1 + below(12);
        if (l.sort != 3) {
            l.down = Model.factors(l.n - 1);
        }
        if (l.sort >= 3) {
            l.up = Model.factors(l.n + 1);
        }
        int base = 2 + below(12);
        for (Model.Row r : l.down) {
            r.base = l.sort == 1 ? base : 2 + below(12);
            r.e = below(9) == 0 ? 1 + below(r.e) : r.e;
        }
        for (boolean up : new boolean[] {false, true}) {
            if (l.side(up).size() > 0 && below(3) == 0) {
                l.side(up).remove(below(l.side(up).size()));
            }
        }
        Model one = new Model();
        one.lines.add(l);
        StringBuilder s = new StringBuilder();
        if (below(3) != 0) {
            for (boolean up : new boolean[] {false, true}) {
                for (Model.Row r : l.side(up)) {
                    s.append(r.q < 100 && s.indexOf("small " + r.q + ";") < 0 ? "small " + r.q + ";" : "");
                }
            }
        }
        return s.append(one.text(0)).toString();
    }

    private static String anyText(Model m) {
        StringBuilder s = new StringBuilder();
        int lines = below(3) == 0 ? 2 + below(2) : below(2);
        for (int i = 0; i < lines; i++) {
            s.append(anyTold(m));
            if (below(4) == 0) {
                s.append("  ");
            }
        }
        int harms = below(2) == 0 ? 0 : 1 + below(2);
        String signs = " ;;0019azsmbyupA\t\n{-";
        for (int i = 0; i < harms && s.length() > 0; i++) {
            int at = below(s.length());
            char sign = below(30) == 0 ? (char) below(256) : signs.charAt(below(signs.length()));
            switch (below(4)) {
                case 0: s.deleteCharAt(at); break;
                case 1: s.setCharAt(at, sign); break;
                case 2: s.insert(at, sign); break;
                default: s.setLength(at); break;
            }
        }
        for (int i = 0; i < s.length(); i++) {
            if (below(25) == 0 && Character.isDigit(s.charAt(i)) && i > 0 && s.charAt(i - 1) == ' ') {
                s.insert(i, "0".repeat(below(11)));
                i += 11;
            }
        }
        return s.toString();
    }

    private static void feedText(String call, PrimeProofs x, Model m, String text) {
        int left = text.length();
        for (int at = 0; at < text.length(); at += 20) {
            int[] v = new int[5];
            for (int i = 0; i < 20; i++) {
                v[i / 4] = v[i / 4] << 8 | (at + i < text.length() ? text.charAt(at + i) : ' ');
            }
            same(call, x.feed(v[0], v[1], v[2], v[3], v[4]), m.feed(v));
            left -= 20;
        }
        same(call, x.back(-left), m.back(-left));
    }

    // ---- calls

    private static void same(String call, long got, long want) {
        callsLeft--;
        if (got != want) {
            wrong++;
            if (wrong < 30) {
                System.out.println(call + " answered " + got + ", the model says " + want);
            }
        }
    }

    private static void comeOrAlter(String at, PrimeProofs x, Model m) {
        int line = anyLineWithRows(m);
        boolean up = anySide(m, line);
        int i = anyIndex(m, line, up);
        switch (below(16)) {
            case 0: case 1: case 2: {
                int n = anyNumber();
                int sort = some(0, 4);
                same(at + "find(" + n + ", " + sort + ")", x.find(n, sort), m.find(n, sort));
                break;
            }
            case 3: case 4: case 5: {
                String text = anyText(m);
                feedText(at + "feed", x, m, text);
                same(at + "read() of " + m.tape, x.read(), m.read());
                break;
            }
            case 6: case 7: {
                int what = some(0, 2);
                int v = what == 0 ? anyNumber() : some(1, 99);
                same(at + "set(" + line + ", " + what + ", " + v + ")", x.set(line, what, v), m.set(line, what, v));
                break;
            }
            case 8: case 9: case 10: {
                int what = some(0, 2);
                int v = what == 0 ? anyDivisor(m, line, up) : some(1, what == 1 ? 4 : 40);
                same(at + "alter(" + line + ", " + up + ", " + i + ", " + what + ", " + v + ")",
                        x.alter(line, up, i, what, v), m.alter(line, up, i, what, v));
                break;
            }
            case 11:
                same(at + "cut(" + line + ", " + up + ", " + i + ")", x.cut(line, up, i), m.cut(line, up, i));
                break;
            case 12: {
                int from = anyLine(m);
                int to = anyLine(m);
                same(at + "move(" + from + ", " + to + ")", x.move(from, to), m.move(from, to));
                break;
            }
            case 13: case 14:
                same(at + "mend(" + line + ")", x.mend(line), m.mend(line));
                break;
            default:
                remove(at, x, m, line);
                break;
        }
        same(at + "then line(" + line + ", 6)", x.line(line, 6), m.line(line, 6));
        same(at + "then right()", x.right(), m.right());
    }

    private static void remove(String at, PrimeProofs x, Model m, int line) {
        switch (below(8)) {
            case 0: same(at + "clear()", x.clear(), m.clear()); break;
            case 1: case 2: same(at + "prune(" + line + ")", x.prune(line), m.prune(line)); break;
            case 3: {
                int n = some(0, 5);
                same(at + "back(" + n + ")", x.back(n), m.back(n));
                break;
            }
            default: same(at + "drop()", x.drop(), m.drop()); break;
        }
    }

    private static void check(String at, PrimeProofs x, Model m) {
        int line = anyLineWithRows(m);
        int other = anyLine(m);
        boolean up = anySide(m, line);
        int i = anyIndex(m, line, up);
        int what = some(0, 6);
        int sign = some(-1, 60);
        int n = m.has(other) && below(2) == 0 ? m.lines.get(other).n : anyNumber();
        switch (below(12)) {
            case 0: same(at + "line(" + line + ", " + what + ")", x.line(line, what), m.line(line, what)); break;
            case 1: case 2:
                same(at + "row(" + line + ", " + up + ", " + i + ", " + what + ")", x.row(line, up, i, what), m.row(line, up, i, what));
                break;
            case 3: same(at + "right()", x.right(), m.right()); break;
            case 4: same(at + "rests(" + line + ")", x.rests(line), m.rests(line)); break;
            case 5: same(at + "deep(" + line + ")", x.deep(line), m.deep(line)); break;
            case 6: same(at + "falls(" + line + ")", x.falls(line), m.falls(line)); break;
            case 7: same(at + "cost(" + line + ")", x.cost(line), m.cost(line)); break;
            case 8: same(at + "loose(" + line + ", " + i + ")", x.loose(line, i), m.loose(line, i)); break;
            case 9: same(at + "shared(" + line + ", " + other + ")", x.shared(line, other), m.shared(line, other)); break;
            case 10: same(at + "spell(" + line + ", " + sign + ")", x.spell(line, sign), m.spell(line, sign)); break;
            default: same(at + "proof(" + n + ")", x.proof(n), m.proof(n)); break;
        }
        same(at + "count(" + what + ")", x.count(what), m.count(what));
    }

    private static void reckon(String at, PrimeProofs x, Model m) {
        int n = anyNumber();
        int k = anyNumber();
        int by = below(2) == 0 ? some(0, 12) : anyNumber();
        switch (below(18)) {
            case 0: {
                int i = some(-1, 4);
                same(at + "prime(" + n + ", " + i + ")", x.prime(n, i), m.prime(n, i));
                break;
            }
            case 1: same(at + "often(" + n + ", " + by + ")", x.often(n, by), m.often(n, by)); break;
            case 2: case 3: {
                int sort = some(1, 4);
                same(at + "needs(" + n + ", " + sort + ")", x.needs(n, sort), m.needs(n, sort));
                break;
            }
            case 4: same(at + "fewest(" + n + ")", x.fewest(n), m.fewest(n)); break;
            case 5: same(at + "next(" + n + ")", x.next(n), m.next(n)); break;
            case 6: same(at + "smooth(" + n + ", " + by + ")", x.smooth(n, by), m.smooth(n, by)); break;
            case 7: same(at + "bound(" + n + ")", x.bound(n), m.bound(n)); break;
            case 8: {
                int c = some(1, 99);
                same(at + "chase(" + n + ", " + c + ")", x.chase(n, c), m.chase(n, c));
                break;
            }
            case 9: {
                int to = n + below(1002) - 1;
                same(at + "primes(" + n + ", " + to + ")", x.primes(n, to), m.primes(n, to));
                break;
            }
            case 10: same(at + "passes(" + n + ", " + by + ")", x.passes(n, by), m.passes(n, by)); break;
            case 11: {
                int what = some(0, 1);
                int odd = below(3) == 0 ? n : n | 1;
                same(at + "fools(" + odd + ", " + what + ")", x.fools(odd, what), m.fools(odd, what));
                break;
            }
            case 12: same(at + "power(" + n + ", " + by + ", " + k + ")", x.power(n, by, k), m.power(n, by, k)); break;
            case 13: {
                int mod = below(4) == 0 ? k : 2 + below(999_999);
                same(at + "order(" + n + ", " + mod + ")", x.order(n, mod), m.order(n, mod));
                break;
            }
            case 14: case 15: {
                int a = below(2) == 0 ? n : -n;
                same(at + "jacobi(" + a + ", " + (k | 1) + ")", x.jacobi(a, k | 1), m.jacobi(a, k | 1));
                same(at + "jacobi(" + a + ", " + k + ")", x.jacobi(a, k), m.jacobi(a, k));
                break;
            }
            case 16: {
                int p = some(1, 99);
                int q = some(1, 99);
                same(at + "u(" + p + ", " + q + ", " + by + ", " + k + ")", x.u(p, q, by, k), m.u(p, q, by, k));
                break;
            }
            default: same(at + "units(" + n + ")", x.units(n), m.units(n)); break;
        }
    }

    private static void atEnd(String at, PrimeProofs x, Model m) {
        for (int i = 0; i < m.lines.size() && callsLeft > 0; i++) {
            same(at + "line(" + i + ", 6)", x.line(i, 6), m.line(i, 6));
        }
        for (int i = 0; i < m.lines.size() && callsLeft > 0; i++) {
            for (int k = -1; k < m.text(i).length() && callsLeft > 0; k++) {
                same(at + "spell(" + i + ", " + k + ")", x.spell(i, k), m.spell(i, k));
            }
        }
    }

    private static void run(int run) {
        state = 977L * run + 5;
        callsLeft = CALLS;
        PrimeProofs x = new PrimeProofs();
        Model m = new Model();
        String at = "run " + run + ": ";
        if (run % 3 == 1) {
            for (int n : new int[] {2, 3, 5, 7, 11, 13, 17, 19, 23, 29, 31}) {
                same(at + "find(" + n + ", 0)", x.find(n, 0), m.find(n, 0));
            }
        }
        if (run % 9 == 0) {
            String many = "small 2;small 3;part 7 by 3 1 2;".repeat(12);
            feedText(at + "feed", x, m, many);
            same(at + "read() of " + many, x.read(), m.read());
        }
        int spare = 60 + below(120);
        for (int step = 0; callsLeft > spare; step++) {
            at = "run " + run + ", step " + step + ": ";
            int kind = below(20);
            if (kind < 8) {
                comeOrAlter(at, x, m);
            } else if (kind < 14) {
                check(at, x, m);
            } else {
                reckon(at, x, m);
            }
        }
        atEnd(at, x, m);
    }

    public static void main(String[] args) {
        Tests.endWithin(300);
        int runs = args.length > 0 ? Integer.parseInt(args[0]) : RUNS;
        for (int run = 1; run <= runs; run++) {
            run(run);
        }
        System.out.println(wrong == 0 ? "all answers are as the model's" : wrong + " answers are not as the model's");
        if (wrong != 0) {
            System.exit(1);
        }
    }
}
