/** Primes with proofs that a small checker reads: a ledger of lines, each resting on lines ahead. */
public final class PrimeProofs {
    public static final int NONE = -1;

    private static final int NOT = -2;
    private static final int FULL = -3;
    private static final int TOLD_WRONG = -4;

    private static final int SMALL = 0;
    private static final int PRATT = 1;
    private static final int PART = 2;
    private static final int LUCAS = 3;
    private static final int BOTH = 4;

    private static final int MOST_NUMBER = 1_000_000_000;
    private static final int LAST_PRIME = 999_999_937;
    private static final int SMALL_END = 100;
    private static final int MOST_LINES = 60;
    private static final int MOST_ROWS = 9;
    private static final int MOST_EXPONENT = 30;
    private static final int LEAST_BASE = 2;
    private static final int MOST_BASE = 999;
    private static final int MOST_PQ = 99;
    private static final int MOST_BYTES = 400;

    private final Ledger ledger;
    private final Finder finder;
    private final Tape tape;
    private final Reader reader;
    private final Speller speller;
    private final Factors factors;

    public PrimeProofs() {
        ledger = new Ledger();
        finder = new Finder(ledger);
        tape = new Tape();
        reader = new Reader(tape, ledger);
        speller = new Speller();
        factors = new Factors();
    }

    // ---- lines come

    public int find(int n, int sort) {
        if (!Arithmetic.isNumber(n) || sort < SMALL || sort > BOTH) {
            return NONE;
        }
        int there = ledger.leastOfSort(n, sort);
        return there >= 0 ? there : finder.bring(n, sort);
    }

    public int feed(int a, int b, int c, int d, int e) {
        if (!tape.hasRoomFor(20)) {
            return NONE;
        }
        tape.append(a);
        tape.append(b);
        tape.append(c);
        tape.append(d);
        tape.append(e);
        return tape.size;
    }

    public int back(int n) {
        if (n < 0 || n > tape.size) {
            return NONE;
        }
        tape.size -= n;
        return tape.size;
    }

    public int read() {
        int before = ledger.size;
        int told = reader.pass(false);
        if (told > MOST_LINES - before) {
            told = FULL;
        }
        if (told > 0) {
            reader.pass(true);
            ledger.checkFrom(before);
        }
        tape.size = 0;
        return told;
    }

    // ---- lines altered

    public int set(int line, int what, int v) {
        if (!ledger.has(line)) {
            return NONE;
        }
        Line one = ledger.lines[line];
        int was;
        if (what == 0 && Arithmetic.isNumber(v)) {
            was = one.number;
            one.number = v;
        } else if (what == 1 && one.hasPQ() && isPQ(v)) {
            was = one.p;
            one.p = v;
        } else if (what == 2 && one.hasPQ() && isPQ(v)) {
            was = one.q;
            one.q = v;
        } else {
            return NONE;
        }
        one.later = NONE;
        ledger.checkFrom(line);
        return was;
    }

    public int alter(int line, boolean up, int i, int what, int v) {
        if (!ledger.hasRow(line, up, i) || !Side.fits(up, what, v)) {
            return NONE;
        }
        Line one = ledger.lines[line];
        Side side = one.side(up);
        int was = side.cell(i, what);
        side.put(i, what, v);
        one.later = NONE;
        ledger.checkFrom(line);
        return was;
    }

    public int cut(int line, boolean up, int i) {
        if (!ledger.hasRow(line, up, i)) {
            return NONE;
        }
        Line one = ledger.lines[line];
        Side side = one.side(up);
        side.takeOut(i);
        one.later = NONE;
        ledger.checkFrom(line);
        return side.size;
    }

    public int move(int line, int to) {
        if (!ledger.has(line) || !ledger.has(to) || line == to) {
            return NONE;
        }
        ledger.shift(line, to);
        ledger.checkFrom(Math.min(line, to));
        return ledger.isRight(to) ? 1 : 0;
    }

    public int mend(int line) {
        if (!ledger.has(line)) {
            return NONE;
        }
        Line one = ledger.lines[line];
        Line better = finder.foundAlone(one.number, one.sort);
        if (better == null) {
            return NOT;
        }
        one.copy(better);
        ledger.checkFrom(line);
        return ledger.faults[line];
    }

    public int prune(int line) {
        if (!ledger.has(line)) {
            return NONE;
        }
        if (!ledger.isRight(line)) {
            return NOT;
        }
        ledger.keepOnly(ledger.restings[line]);
        ledger.checkFrom(0);
        return ledger.size;
    }

    public int drop() {
        if (ledger.size == 0) {
            return NONE;
        }
        ledger.shorten(ledger.size - 1);
        return ledger.size;
    }

    public int clear() {
        int were = ledger.size;
        ledger.shorten(0);
        return were;
    }

    // ---- lines checked

    public int line(int line, int what) {
        if (!ledger.has(line)) {
            return NONE;
        }
        Line one = ledger.lines[line];
        switch (what) {
            case 0:
                return one.number;
            case 1:
                return one.sort;
            case 2:
                return one.p;
            case 3:
                return one.q;
            case 4:
                return one.down.size;
            case 5:
                return one.up.size;
            case 6:
                return ledger.faults[line];
            default:
                return NONE;
        }
    }

    public int row(int line, boolean up, int i, int what) {
        if (!ledger.hasRow(line, up, i) || what < 0 || what > 3) {
            return NONE;
        }
        Side side = ledger.lines[line].side(up);
        if (what < 3) {
            return side.cell(i, what);
        }
        int ahead = ledger.leastAhead(ledger.right, line, side.cell(i, Side.Q));
        return ahead >= 0 ? ahead : NOT;
    }

    public long right() {
        return ledger.right;
    }

    public long rests(int line) {
        if (!ledger.has(line)) {
            return NONE;
        }
        return ledger.isRight(line) ? ledger.restings[line] : NOT;
    }

    public int deep(int line) {
        if (!ledger.has(line)) {
            return NONE;
        }
        return ledger.isRight(line) ? ledger.depths[line] : NOT;
    }

    public long falls(int line) {
        if (!ledger.has(line)) {
            return NONE;
        }
        return ledger.isRight(line) ? ledger.fallen(line) : NOT;
    }

    public int cost(int line) {
        if (!ledger.has(line)) {
            return NONE;
        }
        return ledger.isRight(line) ? Checker.costOf(ledger.lines[line]) : NOT;
    }

    public int loose(int line, int i) {
        if (!ledger.hasRow(line, false, i)) {
            return NONE;
        }
        return ledger.isRight(line) ? Checker.goodBases(ledger.lines[line], i) : NOT;
    }

    public long shared(int line, int other) {
        if (!ledger.has(line) || !ledger.has(other)) {
            return NONE;
        }
        if (!ledger.isRight(line) || !ledger.isRight(other)) {
            return NOT;
        }
        return ledger.restings[line] & ledger.restings[other];
    }

    public int spell(int line, int i) {
        if (!ledger.has(line) || i < NONE) {
            return NONE;
        }
        speller.write(ledger.lines[line]);
        if (i == NONE) {
            return speller.size;
        }
        return i < speller.size ? speller.text[i] : NONE;
    }

    public int proof(int n) {
        if (!Arithmetic.isNumber(n)) {
            return NONE;
        }
        int there = ledger.leastFor(n);
        return there >= 0 ? there : NOT;
    }

    // ---- numbers by themselves

    public int prime(int n, int i) {
        if (!Arithmetic.isNumber(n) || i < NONE) {
            return NONE;
        }
        factors.split(n);
        if (i == NONE) {
            return factors.size;
        }
        return i < factors.size ? factors.primes[i] : NONE;
    }

    public int often(int n, int by) {
        if (!Arithmetic.isNumber(n) || !Arithmetic.isNumber(by)) {
            return NONE;
        }
        return Arithmetic.timesDivides(n, by);
    }

    public int needs(int n, int sort) {
        if (!Arithmetic.isNumber(n) || sort < PRATT || sort > BOTH) {
            return NONE;
        }
        Line laid = finder.laidAlone(n, sort);
        return laid == null ? NOT : 10 * laid.down.size + laid.up.size;
    }

    public int fewest(int n) {
        if (!Arithmetic.isNumber(n)) {
            return NONE;
        }
        int best = NOT;
        int least = 2 * MOST_ROWS + 1;
        for (int sort = PRATT; sort <= BOTH; sort++) {
            Line laid = finder.laidAlone(n, sort);
            if (laid != null && laid.rowCount() < least) {
                least = laid.rowCount();
                best = sort;
            }
        }
        return best;
    }

    public int next(int n) {
        if (n < 0) {
            return NONE;
        }
        for (int above = n; above < LAST_PRIME; above++) {
            if (Arithmetic.isPrime(above + 1)) {
                return above + 1;
            }
        }
        return NONE;
    }

    public int smooth(int n, int bound) {
        if (!Arithmetic.isNumber(n) || bound < 0) {
            return NONE;
        }
        factors.split(n);
        int product = 1;
        for (int i = 0; i < factors.size && factors.primes[i] <= bound; i++) {
            product *= factors.share(i);
        }
        return product;
    }

    public int bound(int n) {
        if (!Arithmetic.isNumber(n) || n < 3) {
            return NONE;
        }
        factors.split(n - 1);
        long product = 1;
        for (int i = 0; i < factors.size; i++) {
            product *= factors.share(i);
            if (product * product > n) {
                return factors.primes[i];
            }
        }
        return NONE;
    }

    public int chase(int n, int c) {
        if (!Arithmetic.isNumber(n) || !isPQ(c)) {
            return NONE;
        }
        long x = 2;
        long y = 2;
        for (int step = 0; step < 1000; step++) {
            x = (x * x + c) % n;
            y = (y * y + c) % n;
            y = (y * y + c) % n;
            long common = Arithmetic.commonOf(Math.abs(x - y), n);
            if (common != 1) {
                return (int) common;
            }
        }
        return NOT;
    }

    public int primes(int from, int to) {
        if (from < 0 || to < from || to > MOST_NUMBER || to - from >= 1000) {
            return NONE;
        }
        int found = 0;
        for (int n = from; n <= to; n++) {
            if (Arithmetic.isPrime(n)) {
                found++;
            }
        }
        return found;
    }

    public int passes(int n, int a) {
        if (!isOddNumber(n) || a < LEAST_BASE || a > MOST_BASE || a >= n) {
            return NONE;
        }
        return Arithmetic.passesBy(n, a) ? 1 : 0;
    }

    public int fools(int n, int what) {
        if (!isOddNumber(n) || what < 0 || what > 1) {
            return NONE;
        }
        int passing = 0;
        int last = Math.min(MOST_BASE, n - 1);
        for (int a = LEAST_BASE; a <= last; a++) {
            if (Arithmetic.passesBy(n, a)) {
                passing++;
            } else if (what == 1) {
                return a;
            }
        }
        return what == 0 ? passing : 0;
    }

    public int power(int a, int k, int m) {
        if (a < 0 || k < 0 || m < 1) {
            return NONE;
        }
        return (int) Arithmetic.powerLeft(a, k, m);
    }

    public int order(int a, int m) {
        if (a < 0 || m < 2 || m > 1_000_000) {
            return NONE;
        }
        if (Arithmetic.commonOf(a, m) != 1) {
            return NOT;
        }
        factors.split(m);
        int least = factors.unitCount(m);
        factors.split(least);
        for (int i = 0; i < factors.size; i++) {
            least = factors.lessened(least, i, a, m);
        }
        return least;
    }

    public int jacobi(int a, int m) {
        if (m < 1 || m % 2 == 0) {
            return NOT;
        }
        return Arithmetic.jacobiOf(a, m);
    }

    public int u(int p, int q, int k, int m) {
        if (!isPQ(p) || !isPQ(q) || k < 0 || m < 1 || m > MOST_NUMBER) {
            return NONE;
        }
        return (int) Arithmetic.sequenceLeft(p, q, k, m);
    }

    public int units(int m) {
        if (m < 1 || m > MOST_NUMBER) {
            return NONE;
        }
        factors.split(m);
        return factors.unitCount(m);
    }

    public int count(int what) {
        switch (what) {
            case 0:
                return ledger.size;
            case 1:
                return Long.bitCount(ledger.right);
            case 2:
                return ledger.rowsOfAll();
            case 3:
                return tape.size;
            case 4:
                return ledger.greatestRight();
            case 5:
                return ledger.deepestRight();
            case 6:
                return ledger.costOfRight();
            default:
                return NONE;
        }
    }

    private static boolean isPQ(int v) {
        return v >= 1 && v <= MOST_PQ;
    }

    private static boolean isOddNumber(int n) {
        return Arithmetic.isNumber(n) && n % 2 == 1;
    }

    /** Sums on numbers alone; all products stay below 2 to the 63 as no modulus reaches 2 to the 31. */
    private static final class Arithmetic {
        private static final int[] WITNESSES = {2, 3, 5, 7};

        static boolean isNumber(int n) {
            return n >= 2 && n <= MOST_NUMBER;
        }

        static long commonOf(long a, long b) {
            long x = a;
            long y = b;
            for (int step = 0; step < 200 && y != 0; step++) {
                long left = x % y;
                x = y;
                y = left;
            }
            return x;
        }

        static long powerLeft(long a, long k, long m) {
            if (m < 1) {
                return 0;
            }
            long result = 1 % m;
            long square = a % m;
            for (long left = k; left > 0; left >>= 1) {
                if ((left & 1) == 1) {
                    result = result * square % m;
                }
                square = square * square % m;
            }
            return result;
        }

        /** U(k) by m. Doubling U(j), U(j and 1) needs no division, so m may be even. */
        static long sequenceLeft(long p, long q, long k, long m) {
            if (m < 1) {
                return 0;
            }
            long here = 0;
            long ahead = 1 % m;
            for (int bit = 31; bit >= 0; bit--) {
                long twice = here * Math.floorMod(2 * ahead - p * here, m) % m;
                long above = Math.floorMod(ahead * ahead - q * (here * here % m), m);
                if (((k >> bit) & 1) == 0) {
                    here = twice;
                    ahead = above;
                } else {
                    here = above;
                    ahead = Math.floorMod(p * above - q * twice, m);
                }
            }
            return here;
        }

        static int jacobiOf(long a, long m) {
            if (m < 1) {
                return 0;
            }
            long top = Math.floorMod(a, m);
            long bottom = m;
            int sign = 1;
            for (int step = 0; step < 200 && top != 0; step++) {
                for (int twos = 0; twos < 64 && top % 2 == 0; twos++) {
                    top /= 2;
                    if (bottom % 8 == 3 || bottom % 8 == 5) {
                        sign = -sign;
                    }
                }
                if (top % 4 == 3 && bottom % 4 == 3) {
                    sign = -sign;
                }
                long left = bottom % top;
                bottom = top;
                top = left;
            }
            return bottom == 1 ? sign : 0;
        }

        /** Whether an odd n above 2 passes by a. */
        static boolean passesBy(int n, int a) {
            int odd = n - 1;
            int twos = 0;
            for (int step = 0; step < 31 && odd % 2 == 0; step++) {
                odd /= 2;
                twos++;
            }
            long x = powerLeft(a, odd, n);
            boolean passes = x == 1 || x == n - 1;
            for (int i = 1; i < twos && !passes; i++) {
                x = powerLeft(x, 2, n);
                passes = x == n - 1;
            }
            return passes;
        }

        /** No composite below 3,215,031,751 passes by 2, 3, 5 and 7 alike. */
        static boolean isPrime(int n) {
            if (n < 2) {
                return false;
            }
            for (int a : WITNESSES) {
                if (n % a == 0) {
                    return n == a;
                }
            }
            for (int a : WITNESSES) {
                if (!passesBy(n, a)) {
                    return false;
                }
            }
            return true;
        }

        static int timesDivides(int n, int by) {
            if (n < 1 || by < 2) {
                return 0;
            }
            int rest = n;
            int times = 0;
            for (int step = 0; step < 31 && rest % by == 0; step++) {
                rest /= by;
                times++;
            }
            return times;
        }
    }

    /** The primes of a number, rising, and how often each divides it. */
    private static final class Factors {
        // No number up to 2 to the 31 has ten unlike primes.
        final int[] primes = new int[MOST_ROWS];
        final int[] exponents = new int[MOST_ROWS];
        int size;

        void split(int n) {
            size = 0;
            int rest = n;
            boolean whole = Arithmetic.isPrime(rest);
            for (int d = 2; !whole && (long) d * d <= rest; d += d == 2 ? 1 : 2) {
                if (rest % d == 0) {
                    rest = takeAll(rest, d);
                    whole = Arithmetic.isPrime(rest);
                }
            }
            if (rest > 1) {
                add(rest, 1);
            }
        }

        private int takeAll(int n, int d) {
            int times = Arithmetic.timesDivides(n, d);
            add(d, times);
            int rest = n;
            for (int i = 0; i < times && d > 1; i++) {
                rest /= d;
            }
            return rest;
        }

        private void add(int prime, int exponent) {
            if (size < primes.length) {
                primes[size] = prime;
                exponents[size] = exponent;
                size++;
            }
        }

        /** The i-th prime to its exponent. */
        int share(int i) {
            int product = 1;
            if (i >= 0 && i < size) {
                for (int e = 0; e < exponents[i]; e++) {
                    product *= primes[i];
                }
            }
            return product;
        }

        /** How many of 1 .. m have nothing in common with m, whose factors these are. */
        int unitCount(int m) {
            int units = m;
            for (int i = 0; i < size; i++) {
                if (primes[i] > 1) {
                    units = units / primes[i] * (primes[i] - 1);
                }
            }
            return units;
        }

        /** An exponent by which a is 1, without the i-th prime as often as it stays so. */
        int lessened(int exponent, int i, int a, int m) {
            int least = exponent;
            if (i < 0 || i >= size || primes[i] < 2) {
                return least;
            }
            int prime = primes[i];
            for (int e = 0; e < exponents[i] && least % prime == 0; e++) {
                if (Arithmetic.powerLeft(a, least / prime, m) != 1) {
                    return least;
                }
                least /= prime;
            }
            return least;
        }
    }

    /** The ROWS of one side of a line: q, EXPONENT and BASE of each (0 of UP ones). */
    private static final class Side {
        static final int Q = 0;
        static final int EXPONENT = 1;
        static final int BASE = 2;
        private static final int WIDTH = 3;
        // Above any number and one, and so low that a number times it is no overflow.
        private static final long TOO_GREAT = 2_000_000_000L;

        final int[] cells = new int[MOST_ROWS * WIDTH];
        int size;

        static boolean fits(boolean up, int what, int v) {
            switch (what) {
                case Q:
                    return Arithmetic.isNumber(v);
                case EXPONENT:
                    return v >= 1 && v <= MOST_EXPONENT;
                case BASE:
                    return !up && v >= LEAST_BASE && v <= MOST_BASE;
                default:
                    return false;
            }
        }

        boolean has(int i) {
            return i >= 0 && i < size;
        }

        int cell(int i, int what) {
            return i >= 0 && i < size && what >= 0 && what < WIDTH ? cells[i * WIDTH + what] : 0;
        }

        void put(int i, int what, int v) {
            if (i >= 0 && i < size && what >= 0 && what < WIDTH) {
                cells[i * WIDTH + what] = v;
            }
        }

        void append(int q, int exponent, int base) {
            if (size < MOST_ROWS) {
                size++;
                put(size - 1, Q, q);
                put(size - 1, EXPONENT, exponent);
                put(size - 1, BASE, base);
            }
        }

        void takeOut(int i) {
            if (has(i)) {
                for (int k = i * WIDTH; k + WIDTH < size * WIDTH; k++) {
                    cells[k] = cells[k + WIDTH];
                }
                size--;
            }
        }

        void copy(Side other) {
            size = other.size;
            System.arraycopy(other.cells, 0, cells, 0, cells.length);
        }

        /** F or G; TOO_GREAT stands for all that is no less. */
        long product() {
            long product = 1;
            for (int i = 0; i < size; i++) {
                for (int e = 0; e < cell(i, EXPONENT); e++) {
                    product *= cell(i, Q);
                    if (product >= TOO_GREAT) {
                        return TOO_GREAT;
                    }
                }
            }
            return product;
        }

        boolean repeats() {
            for (int i = 0; i < size; i++) {
                for (int k = 0; k < i; k++) {
                    if (cell(i, Q) == cell(k, Q)) {
                        return true;
                    }
                }
            }
            return false;
        }
    }

    /** A line as it was found or told; right or not. */
    private static final class Line {
        final Side down = new Side();
        final Side up = new Side();
        int number;
        int sort;
        int p;
        int q;
        // The first of FAULTS 3 to 9, which no other line can change; NONE until it is asked for.
        int later = NONE;

        void begin(int n, int ofSort) {
            number = n;
            sort = ofSort;
            p = 0;
            q = 0;
            down.size = 0;
            up.size = 0;
            later = NONE;
        }

        void copy(Line other) {
            number = other.number;
            sort = other.sort;
            p = other.p;
            q = other.q;
            down.copy(other.down);
            up.copy(other.up);
            later = other.later;
        }

        boolean hasPQ() {
            return sort == LUCAS || sort == BOTH;
        }

        Side side(boolean upward) {
            return upward ? up : down;
        }

        int rowCount() {
            return down.size + up.size;
        }

        /** The q of the i-th of all ROWS, DOWN ones first. */
        int divisor(int i) {
            return i < down.size ? down.cell(i, Side.Q) : up.cell(i - down.size, Side.Q);
        }
    }

    /** What can be wrong with a line by itself: FAULTS 1 and 3 to 9. */
    private static final class Checker {
        static boolean hasFault1(Line line) {
            if (line.sort == SMALL) {
                return line.number >= SMALL_END || !Arithmetic.isPrime(line.number);
            }
            return line.number % 2 == 0;
        }

        /** The first of FAULTS 3 to 9 of a line that has not FAULT 1. */
        static int laterFault(Line line) {
            if (line.sort == SMALL) {
                return 0;
            }
            int fault = productFault(line);
            if (fault == 0) {
                fault = downFault(line);
            }
            return fault == 0 ? upFault(line) : fault;
        }

        /** FAULTS 3 and 4. */
        static int productFault(Line line) {
            long n = line.number;
            long f = line.down.product();
            long g = line.up.product();
            switch (line.sort) {
                case PRATT:
                    return f != n - 1 ? 3 : 0;
                case PART:
                    return !divides(f, n - 1) ? 3 : f * f <= n ? 4 : 0;
                case LUCAS:
                    return g != n + 1 ? 3 : 0;
                case BOTH:
                    if (!divides(f, n - 1) || !divides(g, n + 1)) {
                        return 3;
                    }
                    return isEnough(f, g, n) ? 0 : 4;
                default:
                    return 0;
            }
        }

        private static boolean divides(long d, long n) {
            return d > 0 && n % d == 0;
        }

        /** Whether F and G together leave no room for a factor of n. */
        private static boolean isEnough(long f, long g, long n) {
            long common = Arithmetic.commonOf(f, g);
            if (common < 1) {
                return false;
            }
            long least = f / common * g;
            // M times M itself might overflow.
            if (least < 1 || least <= n / least) {
                return false;
            }
            long left = n % least;
            return left <= 1 || left >= n || n % left != 0;
        }

        /** FAULTS 5 and 6. */
        static int downFault(Line line) {
            Side down = line.down;
            int fault = 0;
            for (int i = 0; i < down.size; i++) {
                int one = rowFault(line.number, down.cell(i, Side.Q), down.cell(i, Side.BASE));
                if (one == 5) {
                    return 5;
                }
                fault = Math.max(fault, one);
            }
            return fault;
        }

        /** FAULT 5 or 6 of one DOWN ROW, whose q divides n less 1. */
        static int rowFault(int n, int q, int base) {
            if (Arithmetic.powerLeft(base, n - 1, n) != 1) {
                return 5;
            }
            // Some power of BASE leaves 1, so no power leaves 0, and 1 can be taken off.
            return q < 1 || Arithmetic.commonOf(Arithmetic.powerLeft(base, (n - 1) / q, n) - 1, n) != 1 ? 6 : 0;
        }

        /** FAULTS 7, 8 and 9. */
        static int upFault(Line line) {
            if (!line.hasPQ()) {
                return 0;
            }
            long n = line.number;
            long d = (long) line.p * line.p - 4L * line.q;
            if (Arithmetic.jacobiOf(d, n) != -1 || Arithmetic.commonOf(line.q, n) != 1) {
                return 7;
            }
            if (Arithmetic.sequenceLeft(line.p, line.q, n + 1, n) != 0) {
                return 8;
            }
            for (int i = 0; i < line.up.size; i++) {
                long by = line.up.cell(i, Side.Q);
                if (by < 1 || Arithmetic.commonOf(Arithmetic.sequenceLeft(line.p, line.q, (n + 1) / by, n), n) != 1) {
                    return 9;
                }
            }
            return 0;
        }

        static int costOf(Line line) {
            int cost = 0;
            int below = line.number - 1;
            for (int i = 0; i < line.down.size; i++) {
                int q = line.down.cell(i, Side.Q);
                if (q > 0) {
                    cost += powerCost(below) + powerCost(below / q);
                }
            }
            return cost;
        }

        private static int powerCost(int k) {
            int cost = -2;
            for (int left = k; left > 0; left >>= 1) {
                cost += 1 + (left & 1);
            }
            return cost;
        }

        /** By how many BASES of its i-th DOWN ROW a right line stays right. */
        static int goodBases(Line line, int i) {
            int good = 0;
            int q = line.down.cell(i, Side.Q);
            for (int base = LEAST_BASE; base <= MOST_BASE; base++) {
                if (rowFault(line.number, q, base) == 0) {
                    good++;
                }
            }
            return good;
        }
    }

    /** All lines, and what checking them told; lines ahead are checked first. */
    private static final class Ledger {
        final Line[] lines = new Line[MOST_LINES];
        final int[] faults = new int[MOST_LINES];
        final long[] restings = new long[MOST_LINES];
        final int[] depths = new int[MOST_LINES];
        long right;
        int size;

        boolean has(int i) {
            return i >= 0 && i < size && lines[i] != null;
        }

        boolean hasRow(int i, boolean up, int k) {
            return has(i) && lines[i].side(up).has(k);
        }

        boolean isRight(int i) {
            return has(i) && isIn(right, i);
        }

        private static boolean isIn(long bits, int i) {
            return ((bits >> i) & 1) == 1;
        }

        /** The least line below end among some for n; NONE: there is none. */
        int leastAhead(long among, int end, int n) {
            for (int i = 0; i < end; i++) {
                if (isIn(among, i) && has(i) && lines[i].number == n) {
                    return i;
                }
            }
            return NONE;
        }

        int leastFor(int n) {
            return leastAhead(right, size, n);
        }

        int leastOfSort(int n, int sort) {
            for (int i = 0; i < size; i++) {
                if (isRight(i) && lines[i].number == n && lines[i].sort == sort) {
                    return i;
                }
            }
            return NONE;
        }

        /** A copy comes behind all, not checked yet: its number; FULL: there is no room. */
        int append(Line line) {
            if (size >= MOST_LINES) {
                return FULL;
            }
            if (lines[size] == null) {
                lines[size] = new Line();
            }
            lines[size].copy(line);
            size++;
            return size - 1;
        }

        /** The same with a line as it is found, which needs no check: it is right. */
        int appendRight(Line line) {
            int i = append(line);
            if (i >= 0) {
                settle(i, 0);
            }
            return i;
        }

        void shorten(int to) {
            size = Math.max(0, Math.min(size, to));
            right &= (1L << size) - 1;
        }

        void shift(int from, int to) {
            if (!has(from) || !has(to)) {
                return;
            }
            Line moved = lines[from];
            int step = from < to ? 1 : -1;
            int between = Math.abs(to - from);
            for (int k = 0; k < between; k++) {
                lines[from + k * step] = lines[from + (k + 1) * step];
            }
            lines[to] = moved;
        }

        void keepOnly(long kept) {
            int left = 0;
            for (int i = 0; i < size; i++) {
                if (isIn(kept, i)) {
                    // A swap: the line that goes is used again for one that comes.
                    Line gone = lines[left];
                    lines[left] = lines[i];
                    lines[i] = gone;
                    left++;
                }
            }
            shorten(left);
        }

        void checkFrom(int first) {
            for (int i = Math.max(first, 0); i < size; i++) {
                if (has(i)) {
                    settle(i, faultOf(i));
                }
            }
        }

        private int faultOf(int i) {
            Line line = lines[i];
            if (Checker.hasFault1(line)) {
                return 1;
            }
            if (line.down.repeats() || line.up.repeats() || !stands(i, right)) {
                return 2;
            }
            if (line.later == NONE) {
                line.later = Checker.laterFault(line);
            }
            return line.later;
        }

        /** Whether for each q of a line there is one of some lines ahead. */
        private boolean stands(int i, long among) {
            Line line = lines[i];
            for (int k = 0; k < line.rowCount(); k++) {
                if (leastAhead(among, i, line.divisor(k)) < 0) {
                    return false;
                }
            }
            return true;
        }

        /** Keeps what follows from the FAULT of a line, all ahead of it being settled. */
        private void settle(int i, int fault) {
            Line line = lines[i];
            faults[i] = fault;
            restings[i] = 1L << i;
            depths[i] = 0;
            right &= ~(1L << i);
            if (fault != 0) {
                return;
            }
            for (int k = 0; k < line.rowCount(); k++) {
                int ahead = leastAhead(right, i, line.divisor(k));
                if (ahead >= 0) {
                    restings[i] |= restings[ahead];
                    depths[i] = Math.max(depths[i], depths[ahead] + 1);
                }
            }
            right |= 1L << i;
        }

        /** The lines that are right now and would not be, were one not right. */
        long fallen(int gone) {
            long still = right & ~(1L << gone);
            for (int i = gone + 1; i < size; i++) {
                if (isIn(still, i) && !stands(i, still)) {
                    still &= ~(1L << i);
                }
            }
            return right & ~still;
        }

        int rowsOfAll() {
            int rows = 0;
            for (int i = 0; i < size; i++) {
                rows += has(i) ? lines[i].rowCount() : 0;
            }
            return rows;
        }

        int greatestRight() {
            int greatest = 0;
            for (int i = 0; i < size; i++) {
                if (isRight(i)) {
                    greatest = Math.max(greatest, lines[i].number);
                }
            }
            return greatest;
        }

        int deepestRight() {
            int deepest = 0;
            for (int i = 0; i < size; i++) {
                if (isRight(i)) {
                    deepest = Math.max(deepest, depths[i]);
                }
            }
            return deepest;
        }

        int costOfRight() {
            int cost = 0;
            for (int i = 0; i < size; i++) {
                if (isRight(i)) {
                    cost += Checker.costOf(lines[i]);
                }
            }
            return cost;
        }
    }

    /** Finds lines for primes, with all lines that they rest on. */
    private static final class Finder {
        // Each q is at most half of what it divides, so 30 levels lead from any number below 2.
        private static final int LEVELS = 40;

        private final Ledger ledger;
        private final Factors below = new Factors();
        private final Factors above = new Factors();
        private final Line[] drafts = new Line[LEVELS];

        Finder(Ledger ofLines) {
            ledger = ofLines;
        }

        /** A line for n comes behind all, those that it needs ahead of it: its number, or NOT, FULL. */
        int bring(int n, int sort) {
            int before = ledger.size;
            int came = bringAt(n, sort, 0);
            if (came < 0) {
                ledger.shorten(before);
            }
            return came;
        }

        private int bringAt(int n, int sort, int level) {
            Line draft = draftAt(level);
            if (draft == null) {
                return FULL;
            }
            if (!lay(draft, n, sort) || !seek(draft)) {
                return NOT;
            }
            for (int i = 0; i < draft.rowCount(); i++) {
                int q = draft.divisor(i);
                if (ledger.leastFor(q) < 0) {
                    int came = bringAt(q, q < SMALL_END ? SMALL : PRATT, level + 1);
                    if (came < 0) {
                        return came;
                    }
                }
            }
            return ledger.appendRight(draft);
        }

        private Line draftAt(int level) {
            if (level < 0 || level >= LEVELS) {
                return null;
            }
            if (drafts[level] == null) {
                drafts[level] = new Line();
            }
            return drafts[level];
        }

        /** A line for n as it is found, which does not come; null: none is found. */
        Line foundAlone(int n, int sort) {
            Line draft = laidAlone(n, sort);
            return draft != null && seek(draft) ? draft : null;
        }

        /** The same without BASES, P and Q. */
        Line laidAlone(int n, int sort) {
            Line draft = draftAt(0);
            return draft != null && lay(draft, n, sort) ? draft : null;
        }

        /** The rows of a line for n, without BASES; false: there is no such line. */
        private boolean lay(Line draft, int n, int sort) {
            draft.begin(n, sort);
            if (!Arithmetic.isPrime(n)) {
                return false;
            }
            if (sort == SMALL) {
                return n < SMALL_END;
            }
            if (n == 2) {
                return false;
            }
            below.split(n - 1);
            above.split(n + 1);
            switch (sort) {
                case PRATT:
                    layAll(draft.down, below);
                    break;
                case PART:
                    layByTurns(draft, below.size, 0);
                    break;
                case LUCAS:
                    layAll(draft.up, above);
                    break;
                default:
                    layByTurns(draft, below.size, above.size);
                    break;
            }
            return true;
        }

        private static void layAll(Side side, Factors all) {
            for (int i = 0; i < all.size; i++) {
                layOne(side, all, i);
            }
        }

        private static void layOne(Side side, Factors all, int i) {
            if (i >= 0 && i < all.size) {
                side.append(all.primes[i], all.exponents[i], 0);
            }
        }

        /** From the greatest primes on, one of below, one of above, until these are enough. */
        private void layByTurns(Line draft, int downs, int ups) {
            int down = downs;
            int up = ups;
            boolean upNext = false;
            for (int turn = 0; turn < 2 * MOST_ROWS && Checker.productFault(draft) != 0; turn++) {
                if (up > 0 && (upNext || down == 0)) {
                    up--;
                    layOne(draft.up, above, up);
                    upNext = false;
                } else if (down > 0) {
                    down--;
                    layOne(draft.down, below, down);
                    upNext = true;
                }
            }
        }

        /** BASES, P and Q of a line that has its rows; false: there are none. */
        private static boolean seek(Line draft) {
            switch (draft.sort) {
                case PRATT:
                    return seekOneBase(draft);
                case PART:
                    return seekBases(draft);
                case LUCAS:
                    return seekPQ(draft);
                case BOTH:
                    return seekBases(draft) && seekPQ(draft);
                default:
                    return true;
            }
        }

        private static boolean seekOneBase(Line draft) {
            for (int base = LEAST_BASE; base <= MOST_BASE; base++) {
                for (int i = 0; i < draft.down.size; i++) {
                    draft.down.put(i, Side.BASE, base);
                }
                if (Checker.downFault(draft) == 0) {
                    return true;
                }
            }
            return false;
        }

        private static boolean seekBases(Line draft) {
            for (int i = 0; i < draft.down.size; i++) {
                int base = leastBase(draft.number, draft.down.cell(i, Side.Q));
                if (base < 0) {
                    return false;
                }
                draft.down.put(i, Side.BASE, base);
            }
            return true;
        }

        private static int leastBase(int n, int q) {
            for (int base = LEAST_BASE; base <= MOST_BASE; base++) {
                if (Checker.rowFault(n, q, base) == 0) {
                    return base;
                }
            }
            return NONE;
        }

        private static boolean seekPQ(Line draft) {
            for (int p = 1; p <= MOST_PQ; p++) {
                for (int q = 1; q <= MOST_PQ; q++) {
                    draft.p = p;
                    draft.q = q;
                    if (Checker.upFault(draft) == 0) {
                        return true;
                    }
                }
            }
            return false;
        }
    }

    /** The bytes of a text that is not read yet. */
    private static final class Tape {
        final char[] bytes = new char[MOST_BYTES];
        int size;

        boolean hasRoomFor(int more) {
            return size + more <= MOST_BYTES;
        }

        void append(int four) {
            for (int shift = 24; shift >= 0 && size < MOST_BYTES; shift -= 8) {
                bytes[size] = (char) ((four >>> shift) & 255);
                size++;
            }
        }
    }

    /** Reads lines from the tape, sign by sign; what can't stand there is never passed. */
    private static final class Reader {
        private static final int END = 0;
        private static final int WORD = 1;
        private static final int INT = 2;
        private static final int OTHER = 3;
        private static final int MOST_DIGITS = 10;
        // BASES are told ROW by ROW.
        private static final int OWN_BASE = -1;

        private final Tape tape;
        private final Ledger ledger;
        private final Line draft = new Line();
        private int kind;
        private int start;
        private int end;

        Reader(Tape ofBytes, Ledger ofLines) {
            tape = ofBytes;
            ledger = ofLines;
        }

        /** The whole tape once, the lines kept or not: how many, or TOLD_WRONG less the FAULT. */
        int pass(boolean keep) {
            kind = OTHER;
            end = 0;
            advance();
            int told = 0;
            for (int i = 0; i < MOST_BYTES && kind != END; i++) {
                if (!tellLine()) {
                    return TOLD_WRONG - start;
                }
                if (keep) {
                    ledger.append(draft);
                }
                told++;
            }
            return told;
        }

        /** On to the next WORD, INT or sign; one that touches the last is OTHER: it can't stand there. */
        private void advance() {
            boolean joined = kind == WORD || kind == INT;
            start = end;
            for (int i = end; i < tape.size && tape.bytes[i] == ' '; i++) {
                start = i + 1;
                joined = false;
            }
            end = start;
            if (start >= tape.size) {
                kind = END;
                return;
            }
            kind = kindOf(tape.bytes[start]);
            end = start + 1;
            for (int i = end; kind != OTHER && i < tape.size && kindOf(tape.bytes[i]) == kind; i++) {
                end = i + 1;
            }
            if (joined) {
                kind = OTHER;
            }
        }

        private static int kindOf(char sign) {
            if (sign >= 'a' && sign <= 'z') {
                return WORD;
            }
            return sign >= '0' && sign <= '9' ? INT : OTHER;
        }

        private boolean isWord(String word) {
            if (kind != WORD || end - start != word.length()) {
                return false;
            }
            for (int i = 0; i < word.length(); i++) {
                if (start + i >= tape.size || tape.bytes[start + i] != word.charAt(i)) {
                    return false;
                }
            }
            return true;
        }

        private boolean tellWord(String word) {
            if (!isWord(word)) {
                return false;
            }
            advance();
            return true;
        }

        /** The INT there; NONE: there is none, or none within these. */
        private int tellInt(int least, int most) {
            if (kind != INT || end - start > MOST_DIGITS) {
                return NONE;
            }
            long value = 0;
            for (int i = start; i < end && i < tape.size; i++) {
                value = 10 * value + (tape.bytes[i] - '0');
            }
            if (value < least || value > most) {
                return NONE;
            }
            advance();
            return (int) value;
        }

        private boolean tellEnd() {
            if (kind != OTHER || start >= tape.size || tape.bytes[start] != ';') {
                return false;
            }
            advance();
            return true;
        }

        private boolean tellLine() {
            int sort = sortTold();
            if (sort == NONE) {
                return false;
            }
            advance();
            int n = tellInt(2, MOST_NUMBER);
            if (n == NONE) {
                return false;
            }
            draft.begin(n, sort);
            switch (sort) {
                case PRATT:
                    return tellPratt() && tellEnd();
                case PART:
                    return tellWord("by") && tellRows(draft.down, OWN_BASE) && tellEnd();
                case LUCAS:
                    return tellPQ() && tellWord("by") && tellRows(draft.up, 0) && tellEnd();
                case BOTH:
                    return tellPQ() && tellWord("down") && tellRows(draft.down, OWN_BASE)
                            && tellWord("up") && tellRows(draft.up, 0) && tellEnd();
                default:
                    return tellEnd();
            }
        }

        private int sortTold() {
            for (int sort = SMALL; sort <= BOTH; sort++) {
                if (isWord(Speller.nameOf(sort))) {
                    return sort;
                }
            }
            return NONE;
        }

        private boolean tellPratt() {
            if (!tellWord("base")) {
                return false;
            }
            int base = tellInt(LEAST_BASE, MOST_BASE);
            return base != NONE && tellWord("by") && tellRows(draft.down, base);
        }

        private boolean tellPQ() {
            if (!tellWord("with")) {
                return false;
            }
            draft.p = tellInt(1, MOST_PQ);
            if (draft.p == NONE) {
                return false;
            }
            draft.q = tellInt(1, MOST_PQ);
            return draft.q != NONE;
        }

        private boolean tellRows(Side side, int baseOfAll) {
            for (int i = 0; i < MOST_ROWS && kind == INT; i++) {
                int q = tellInt(2, MOST_NUMBER);
                if (q == NONE) {
                    return false;
                }
                int exponent = tellInt(1, MOST_EXPONENT);
                if (exponent == NONE) {
                    return false;
                }
                int base = baseOfAll == OWN_BASE ? tellInt(LEAST_BASE, MOST_BASE) : baseOfAll;
                if (base == NONE) {
                    return false;
                }
                side.append(q, exponent, base);
            }
            return kind != INT;
        }
    }

    /** Writes a line as a text. */
    private static final class Speller {
        // The longest: 31 signs of "both", 9 rows of 18, 3 of "up", 9 rows of 14, and the end.
        private static final int ROOM = 400;

        final char[] text = new char[ROOM];
        int size;

        static String nameOf(int sort) {
            switch (sort) {
                case PRATT:
                    return "pratt";
                case PART:
                    return "part";
                case LUCAS:
                    return "lucas";
                case BOTH:
                    return "both";
                default:
                    return "small";
            }
        }

        void write(Line line) {
            size = 0;
            writeWord(nameOf(line.sort));
            writeInt(line.number);
            if (line.hasPQ()) {
                writeWord("with");
                writeInt(line.p);
                writeInt(line.q);
            }
            if (line.sort == PRATT) {
                writeWord("base");
                writeInt(line.down.size > 0 ? line.down.cell(0, Side.BASE) : LEAST_BASE);
            }
            if (line.sort == BOTH) {
                writeWord("down");
                writeRows(line.down, true);
                writeWord("up");
                writeRows(line.up, false);
            } else if (line.sort != SMALL) {
                writeWord("by");
                writeRows(line.down, line.sort == PART);
                writeRows(line.up, false);
            }
            writeSign(';');
        }

        private void writeRows(Side side, boolean withBase) {
            for (int i = 0; i < side.size; i++) {
                writeInt(side.cell(i, Side.Q));
                writeInt(side.cell(i, Side.EXPONENT));
                if (withBase) {
                    writeInt(side.cell(i, Side.BASE));
                }
            }
        }

        private void writeBlank() {
            if (size > 0) {
                writeSign(' ');
            }
        }

        private void writeWord(String word) {
            writeBlank();
            for (int i = 0; i < word.length(); i++) {
                writeSign(word.charAt(i));
            }
        }

        private void writeInt(int value) {
            writeBlank();
            boolean begun = false;
            for (int unit = MOST_NUMBER; unit > 0; unit /= 10) {
                int digit = value / unit % 10;
                begun = begun || digit > 0 || unit == 1;
                if (begun) {
                    writeSign((char) ('0' + digit));
                }
            }
        }

        private void writeSign(char sign) {
            if (size < ROOM) {
                text[size] = sign;
                size++;
            }
        }
    }
}
