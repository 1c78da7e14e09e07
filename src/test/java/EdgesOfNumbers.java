/** Each sentence of promises 25 to 41 that names an edge: numbers by themselves, and the counts. */
final class EdgesOfNumbers extends Tests {
    private static final int NINE_PRIMES = 223_092_870;

    // No primes, though they pass by three of 2, 3, 5 and 7.
    private static final int[] LIKE_PRIMES = {25_326_001, 2_284_453, 746_331_041, 1_024_651};

    private static PrimeProofs x() {
        return new PrimeProofs();
    }

    // ---- 25 prime

    @Says(promise = 25, words = "n and its primes, rising: of the least and the greatest NUMBER")
    static void primesOfTheEdges() {
        due(x().prime(LEAST, NONE), 1, "prime(2, -1)");
        due(x().prime(LEAST, 0), 2, "prime(2, 0)");
        due(x().prime(MOST, NONE), 2, "prime(1000000000, -1)");
        due(x().prime(MOST, 0), 2, "prime(1000000000, 0)");
        due(x().prime(MOST, 1), 5, "prime(1000000000, 1)");
        due(x().prime(LAST_PRIME, NONE), 1, "prime(999999937, -1)");
        due(x().prime(LAST_PRIME, 0), LAST_PRIME, "prime(999999937, 0)");
    }

    @Says(promise = 25, words = "i NONE how many unlike ones: as many as can be")
    static void asManyPrimesAsCanBe() {
        PrimeProofs x = x();
        int[] nine = {2, 3, 5, 7, 11, 13, 17, 19, 23};
        due(x.prime(NINE_PRIMES, NONE), 9, "how many");
        for (int i = 0; i < 9; i++) {
            due(x.prime(NINE_PRIMES, i), nine[i], "the " + i + "-th");
        }
        due(x.prime(NINE_PRIMES, 9), NONE, "a tenth");
    }

    @Says(promise = 25, words = "how many unlike ones: squares and powers")
    static void unlikeOnes() {
        due(x().prime(536_870_912, NONE), 1, "2 to the 29");
        due(x().prime(999_002_449, NONE), 1, "31607 times 31607");
        due(x().prime(999_002_449, 0), 31_607, "31607 times 31607");
        due(x().prime(4, NONE), 1, "4");
        // 31607 times 31627: near the greatest square.
        due(x().prime(999_634_589, NONE), 2, "31607 times 31627");
        due(x().prime(999_634_589, 1), 31_627, "31607 times 31627");
    }

    @Says(promise = 25, words = "NONE for others: i")
    static void noSuchPrime() {
        PrimeProofs x = x();
        for (int i : new int[] {MIN, -3, -2, 3, 4, 9, MAX}) {
            due(x.prime(30, i), NONE, "prime(30, " + i + ")");
        }
        due(x.prime(NINE_PRIMES, 8), 23, "one with more was told last");
        due(x.prime(30, 3), NONE, "prime(30, 3)");
        due(x.prime(7, 1), NONE, "prime(7, 1)");
    }

    @Says(promise = 25, words = "NONE for others: n")
    static void primeOfNoNumber() {
        for (int n : NO_NUMBERS) {
            due(x().prime(n, NONE), NONE, "prime(" + n + ", -1)");
            due(x().prime(n, 0), NONE, "prime(" + n + ", 0)");
        }
    }

    // ---- 26 often

    @Says(promise = 26, words = "How often a NUMBER divides n, again and again: not at all, once")
    static void seldom() {
        due(x().often(7, 2), 0, "often(7, 2)");
        due(x().often(7, 7), 1, "often(7, 7)");
        due(x().often(7, 8), 0, "often(7, 8)");
        due(x().often(2, MOST), 0, "often(2, 1000000000)");
        due(x().often(MOST, MOST), 1, "often(1000000000, 1000000000)");
        due(x().often(LEAST, LEAST), 1, "often(2, 2)");
    }

    @Says(promise = 26, words = "How often a NUMBER divides n, again and again: no prime")
    static void aNumberThatIsNoPrime() {
        due(x().often(64, 4), 3, "often(64, 4)");
        due(x().often(32, 4), 2, "often(32, 4)");
        due(x().often(MOST, 10), 9, "often(1000000000, 10)");
    }

    @Says(promise = 26, words = "How often: as often as can be")
    static void asOftenAsCanBe() {
        due(x().often(536_870_912, 2), 29, "often(536870912, 2)");
        due(x().often(387_420_489, 3), 18, "often(387420489, 3)");
    }

    @Says(promise = 26, words = "NONE: no NUMBERS")
    static void oftenOfNoNumbers() {
        for (int n : NO_NUMBERS) {
            due(x().often(n, 2), NONE, "often(" + n + ", 2)");
            due(x().often(2, n), NONE, "often(2, " + n + ")");
            due(x().often(n, n), NONE, "often(" + n + ", " + n + ")");
        }
    }

    // ---- 27 needs

    @Says(promise = 27, words = "10 times DOWN ones, and UP ones: the fewest")
    static void theFewestRows() {
        int[] want = {10, 10, 1, 10};
        for (int sort = 1; sort <= 4; sort++) {
            due(x().needs(3, sort), want[sort - 1], "needs(3, " + sort + ")");
        }
    }

    // 892371480 is 4 times 223092870; the numbers below and above it are primes.
    @Says(promise = 27, words = "10 times DOWN ones, and UP ones: the most")
    static void theMostRows() {
        due(x().needs(892_371_481, 1), 90, "PRATT, nine");
        due(x().needs(892_371_479, 3), 9, "LUCAS, nine");
        // 23 times 19 times 17 is 7429, that times 13 is 96577; 29872 times itself is less than both numbers.
        due(x().needs(892_371_481, 2), 40, "PART, four");
    }

    @Says(promise = 27, words = "-2: n is no prime above 2")
    static void needsOfNoPrimeAbove2() {
        for (int sort = 1; sort <= 4; sort++) {
            for (int n : new int[] {2, 4, 9, 91, 999_999_999, MOST}) {
                due(x().needs(n, sort), NOT, "needs(" + n + ", " + sort + ")");
            }
            for (int n : LIKE_PRIMES) {
                due(x().needs(n, sort), NOT, "needs(" + n + ", " + sort + ")");
            }
        }
    }

    @Says(promise = 27, words = "NONE: no such SORT (1 .. 4)")
    static void needsOfNoSort() {
        for (int sort : new int[] {MIN, -1, 0, 5, 6, MAX}) {
            due(x().needs(7, sort), NONE, "needs(7, " + sort + ")");
            due(x().needs(2, sort), NONE, "needs(2, " + sort + ")");
        }
    }

    @Says(promise = 27, words = "NONE: no such NUMBER")
    static void needsOfNoNumber() {
        for (int n : NO_NUMBERS) {
            for (int sort = 1; sort <= 4; sort++) {
                due(x().needs(n, sort), NONE, "needs(" + n + ", " + sort + ")");
            }
        }
        due(x().needs(LAST_PRIME, 1), 50, "the greatest prime");
    }

    // ---- 28 fewest

    @Says(promise = 28, words = "(of several the least)")
    static void ofSeveralTheLeast() {
        due(x().fewest(3), 1, "all have one");
        due(x().fewest(1439), 2, "PART has one, PRATT and BOTH two");
        due(x().fewest(8191), 3, "LUCAS has one");
        due(x().fewest(2113), 4, "BOTH has two");
        due(x().fewest(1009), 2, "PART and BOTH have two");
    }

    @Says(promise = 28, words = "-2: n is no prime above 2")
    static void fewestOfNoPrimeAbove2() {
        for (int n : new int[] {2, 4, 9, 91, 999_999_999, MOST}) {
            due(x().fewest(n), NOT, "fewest(" + n + ")");
        }
        for (int n : LIKE_PRIMES) {
            due(x().fewest(n), NOT, "fewest(" + n + ")");
        }
    }

    @Says(promise = 28, words = "NONE: no NUMBER")
    static void fewestOfNoNumber() {
        for (int n : NO_NUMBERS) {
            due(x().fewest(n), NONE, "fewest(" + n + ")");
        }
        due(x().fewest(LAST_PRIME) > 0 ? 1 : 0, 1, "the greatest prime");
    }

    // ---- 29 next

    @Says(promise = 29, words = "The least prime above n: n is the least, 0, or a prime itself")
    static void aboveTheLeast() {
        due(x().next(0), 2, "next(0)");
        due(x().next(1), 2, "next(1)");
        due(x().next(2), 3, "next(2)");
        due(x().next(3), 5, "next(3)");
        due(x().next(23), 29, "next(23)");
    }

    @Says(promise = 29, words = "The least prime above n (.. 999,999,936)")
    static void aboveTheGreatest() {
        due(x().next(999_999_936), LAST_PRIME, "next(999999936)");
        due(x().next(999_999_929), LAST_PRIME, "next(999999929)");
        due(x().next(999_999_928), 999_999_929, "next(999999928)");
    }

    @Says(promise = 29, words = "The least prime above n: the widest gap")
    static void theWidestGap() {
        due(x().next(436_273_009), 436_273_291, "next(436273009)");
        due(x().next(436_273_290), 436_273_291, "next(436273290)");
    }

    @Says(promise = 29, words = "NONE: others")
    static void nextOfOthers() {
        for (int n : new int[] {MIN, -2, -1, LAST_PRIME, LAST_PRIME + 1, MOST, MOST + 1, MAX}) {
            due(x().next(n), NONE, "next(" + n + ")");
        }
    }

    // ---- 30 smooth

    @Says(promise = 30, words = "primes up to a bound (0 on): none")
    static void aBoundBelowAll() {
        due(x().smooth(15, 0), 1, "smooth(15, 0)");
        due(x().smooth(15, 1), 1, "smooth(15, 1)");
        due(x().smooth(15, 2), 1, "smooth(15, 2)");
        due(x().smooth(LAST_PRIME, LAST_PRIME - 1), 1, "the greatest prime");
    }

    @Says(promise = 30, words = "primes up to a bound: the bound is one")
    static void theBoundItself() {
        due(x().smooth(360, 2), 8, "smooth(360, 2)");
        due(x().smooth(360, 3), 72, "smooth(360, 3)");
        due(x().smooth(360, 4), 72, "smooth(360, 4)");
        due(x().smooth(360, 5), 360, "smooth(360, 5)");
        due(x().smooth(LAST_PRIME, LAST_PRIME), LAST_PRIME, "the greatest prime");
    }

    @Says(promise = 30, words = "all primes, each as often as it does: the greatest products")
    static void theGreatestProducts() {
        due(x().smooth(MOST, MAX), MOST, "smooth(1000000000, MAX)");
        due(x().smooth(MOST, 4), 512, "smooth(1000000000, 4)");
        due(x().smooth(536_870_912, 2), 536_870_912, "smooth(536870912, 2)");
        due(x().smooth(NINE_PRIMES, 23), NINE_PRIMES, "nine primes");
        due(x().smooth(NINE_PRIMES, 22), 9_699_690, "eight primes");
    }

    @Says(promise = 30, words = "NONE: no NUMBER, a bound below 0")
    static void smoothOfOthers() {
        for (int n : NO_NUMBERS) {
            due(x().smooth(n, 5), NONE, "smooth(" + n + ", 5)");
        }
        due(x().smooth(360, -1), NONE, "smooth(360, -1)");
        due(x().smooth(360, MIN), NONE, "smooth(360, MIN)");
        due(x().smooth(1, -1), NONE, "smooth(1, -1)");
    }

    // ---- 31 bound

    @Says(promise = 31, words = "times itself, is more than n (n a NUMBER from 3 on)")
    static void boundFrom3On() {
        due(x().bound(3), 2, "bound(3)");
        due(x().bound(4), 3, "bound(4)");
        due(x().bound(5), 2, "bound(5)");
        due(x().bound(7), 3, "bound(7): 2 times 2 is less");
    }

    @Says(promise = 31, words = "times itself, is more than n: as little as can be")
    static void justMore() {
        // 36 is more than 31, and less than 37 and 43; 37 less 1 is 36 itself, 43 less 1 is 6 times 7.
        due(x().bound(31), 3, "bound(31)");
        due(x().bound(37), 3, "bound(37)");
        due(x().bound(43), 7, "bound(43)");
        // 157 less 1 is 12 times 13, and 12 times 12 is less than 157.
        due(x().bound(157), 13, "bound(157)");
    }

    @Says(promise = 31, words = "times itself, is more than n: beyond 32 binary digits")
    static void squaresDoNotWrap() {
        // 65536 times 65536 is 2 to the 32; 999999999 less 1 times itself is about 10 to the 18.
        due(x().bound(65_537), 2, "bound(65537)");
        due(x().bound(131_073), 2, "bound(131073)");
        due(x().bound(536_870_913), 2, "bound(536870913)");
        due(x().bound(LAST_PRIME + 1), LAST_PRIME, "a prime below");
    }

    @Says(promise = 31, words = "n a NUMBER: the greatest")
    static void boundOfTheGreatest() {
        // 999999999 is 81 times 37 times 333667.
        due(x().bound(MOST), 333_667, "bound(1000000000)");
        // 999999998 is 2 times 691 times 723589.
        due(x().bound(999_999_999), 723_589, "bound(999999999)");
    }

    @Says(promise = 31, words = "NONE: others")
    static void boundOfOthers() {
        for (int n : new int[] {MIN, -1, 0, 1, 2, MOST + 1, MAX}) {
            due(x().bound(n), NONE, "bound(" + n + ")");
        }
    }

    // ---- 32 chase

    @Says(promise = 32, words = "as soon as it isn't 1")
    static void asSoonAsItIsNot1() {
        // 2, 5, 26, 677 by 8051: the third time COMMON is 97.
        due(x().chase(8051, 1), 97, "chase(8051, 1)");
        // x 5 and y 26: 21 and 15 have 3 in common at once.
        due(x().chase(15, 1), 3, "chase(15, 1)");
    }

    @Says(promise = 32, words = "(n itself, too)")
    static void nItself() {
        due(x().chase(2, 1), 2, "chase(2, 1)");
        due(x().chase(3, 1), 3, "chase(3, 1)");
        due(x().chase(4, 1), 4, "chase(4, 1)");
        due(x().chase(148_151, 1), 148_151, "chase(148151, 1)");
    }

    @Says(promise = 32, words = "(1,000 times at most)")
    static void aThousandTimesAtMost() {
        due(x().chase(212_243, 1), 212_243, "the 1000th time");
        due(x().chase(132_851, 1), NOT, "the 1001st time");
    }

    @Says(promise = 32, words = "-2: it is 1 always")
    static void itIs1Always() {
        due(x().chase(LAST_PRIME, 1), NOT, "chase(999999937, 1)");
    }

    // x times x is about 10 to the 18; all is as with great numbers.
    @Says(promise = 32, words = "x times x and c by n, what is left: the greatest n")
    static void theGreatestChase() {
        // 31607 times 31627.
        long n = 999_634_589;
        long x = 2;
        long y = 2;
        int want = NOT;
        for (int i = 0; i < 1000 && want == NOT; i++) {
            x = next(x, n);
            y = next(next(y, n), n);
            int common = java.math.BigInteger.valueOf(x - y).gcd(java.math.BigInteger.valueOf(n)).intValue();
            want = common == 1 ? NOT : common;
        }
        due(x().chase((int) n, 99), want, "chase(" + n + ", 99)");
        due(x().chase(MOST, 99), 5, "chase(1000000000, 99)");
        due(x().chase(999_999_999, 1), 3, "chase(999999999, 1)");
    }

    private static long next(long x, long n) {
        return java.math.BigInteger.valueOf(x).pow(2).add(java.math.BigInteger.valueOf(99)).mod(java.math.BigInteger.valueOf(n)).longValue();
    }

    @Says(promise = 32, words = "NONE: no NUMBER")
    static void chaseOfNoNumber() {
        for (int n : NO_NUMBERS) {
            due(x().chase(n, 1), NONE, "chase(" + n + ", 1)");
        }
    }

    @Says(promise = 32, words = "NONE: c not 1 .. 99")
    static void chaseOfNoC() {
        for (int c : new int[] {MIN, -1, 0, 100, 101, MAX}) {
            due(x().chase(15, c), NONE, "chase(15, " + c + ")");
        }
        due(x().chase(15, 99) == NONE ? 0 : 1, 1, "chase(15, 99)");
    }

    // ---- 33 primes

    @Says(promise = 33, words = "from one number (0 on) to another one (no less)")
    static void fromANumberToItself() {
        due(x().primes(0, 0), 0, "primes(0, 0)");
        due(x().primes(1, 1), 0, "primes(1, 1)");
        due(x().primes(2, 2), 1, "primes(2, 2)");
        due(x().primes(0, 2), 1, "primes(0, 2)");
        due(x().primes(3, 5), 2, "primes(3, 5)");
        due(x().primes(5, 4), NONE, "primes(5, 4)");
        due(x().primes(1, 0), NONE, "primes(1, 0)");
        due(x().primes(0, -1), NONE, "primes(0, -1)");
        due(x().primes(-1, 5), NONE, "primes(-1, 5)");
        due(x().primes(-1, -1), NONE, "primes(-1, -1)");
    }

    @Says(promise = 33, words = "How many primes: those that pass by some are none")
    static void whatLooksLikeAPrime() {
        for (int n : LIKE_PRIMES) {
            due(x().primes(n, n), 0, "primes(" + n + ", " + n + ")");
            due(x().next(n - 1) > n ? 1 : 0, 1, "whether next(" + (n - 1) + ") is above");
            due(x().prime(n, NONE) > 1 ? 1 : 0, 1, "whether " + n + " has more primes than one");
        }
    }

    @Says(promise = 33, words = "(less than 1,000 above)")
    static void lessThan1000Above() {
        due(x().primes(0, 999), 168, "primes(0, 999)");
        due(x().primes(0, 1000), NONE, "primes(0, 1000)");
        due(x().primes(1, 1000), 168, "primes(1, 1000)");
        due(x().primes(1, 1001), NONE, "primes(1, 1001)");
        due(x().primes(10, 1009), 165, "primes(10, 1009)");
        due(x().primes(0, MOST), NONE, "primes(0, 1000000000)");
    }

    @Says(promise = 33, words = "(1,000,000,000 at most)")
    static void upTo1000000000() {
        due(x().primes(999_999_937, MOST), 1, "primes(999999937, 1000000000)");
        due(x().primes(999_999_938, MOST), 0, "primes(999999938, 1000000000)");
        due(x().primes(999_999_001, MOST), 45, "primes(999999001, 1000000000)");
        due(x().primes(MOST, MOST), 0, "primes(1000000000, 1000000000)");
        due(x().primes(999_999_937, MOST + 1), NONE, "primes(999999937, 1000000001)");
        due(x().primes(MOST + 1, MOST + 1), NONE, "primes(1000000001, 1000000001)");
    }

    @Says(promise = 33, words = "NONE: others: differences that wrap around")
    static void differencesThatWrap() {
        due(x().primes(0, MAX), NONE, "primes(0, MAX)");
        due(x().primes(MIN, MAX), NONE, "primes(MIN, MAX)");
        due(x().primes(MIN, 0), NONE, "primes(MIN, 0)");
        due(x().primes(MAX, MIN), NONE, "primes(MAX, MIN)");
        due(x().primes(5, MIN), NONE, "primes(5, MIN)");
        due(x().primes(MAX, MAX), NONE, "primes(MAX, MAX)");
    }

    // ---- 34 passes

    @Says(promise = 34, words = "an odd NUMBER n above 2")
    static void oddNumbersAbove2() {
        due(x().passes(3, 2), 1, "passes(3, 2)");
        due(x().passes(2, 2), NONE, "passes(2, 2)");
        due(x().passes(1, 2), NONE, "passes(1, 2)");
        due(x().passes(4, 3), NONE, "passes(4, 3)");
        due(x().passes(MOST, 3), NONE, "passes(1000000000, 3)");
        due(x().passes(999_999_999, 2), 0, "passes(999999999, 2)");
        due(x().passes(MOST + 1, 2), NONE, "passes(1000000001, 2)");
        for (int n : NO_NUMBERS) {
            due(x().passes(n, 2), NONE, "passes(" + n + ", 2)");
        }
        due(x().passes(-7, 2), NONE, "passes(-7, 2)");
    }

    @Says(promise = 34, words = "by a (2 .. 999)")
    static void from2To999() {
        due(x().passes(1009, 2), 1, "passes(1009, 2)");
        due(x().passes(1009, 999), 1, "passes(1009, 999)");
        for (int a : new int[] {MIN, -2, -1, 0, 1, 1000, 1001, MAX}) {
            due(x().passes(1009, a), NONE, "passes(1009, " + a + ")");
        }
    }

    @Says(promise = 34, words = "by a (less than n)")
    static void lessThanN() {
        due(x().passes(5, 4), 1, "passes(5, 4)");
        due(x().passes(5, 5), NONE, "passes(5, 5)");
        due(x().passes(5, 6), NONE, "passes(5, 6)");
        due(x().passes(999, 998), 1, "passes(999, 998)");
        due(x().passes(999, 999), NONE, "passes(999, 999)");
        due(x().passes(3, 3), NONE, "passes(3, 3)");
    }

    @Says(promise = 34, words = "what is left of a to the s is 1")
    static void aToTheSIs1() {
        // 48 is 16 times 3, and 18 to the 3 is 5832, which is 1 by 49.
        due(x().passes(49, 18), 1, "passes(49, 18)");
        due(x().passes(7, 2), 1, "passes(7, 2): 8 is 1");
        due(x().passes(2047, 2), 1, "passes(2047, 2)");
    }

    @Says(promise = 34, words = "of a to the s times 1, 2, 4 .. (less than n less 1) is n less 1")
    static void aToSomeTimesSIsNLess1() {
        due(x().passes(25, 7), 1, "passes(25, 7): 7 to the 6 is 24, 3 being s");
        due(x().passes(5, 2), 1, "passes(5, 2): 4 is 2 to the 2, 1 being s");
        due(x().passes(65_537, 3), 1, "passes(65537, 3): by 3 to the 32768");
        due(x().passes(13, 5), 1, "passes(13, 5): 5 to the 3 is 8, to the 6 is 12");
    }

    @Says(promise = 34, words = "(less than n less 1): a to the n less 1 itself does not count")
    static void nLess1ItselfDoesNotCount() {
        // 2 to the 560 is 1 by 561, though none of those ahead is 560; no power is 0 less 1 by 9 but of 2, 5 and 8.
        due(x().passes(561, 2), 0, "passes(561, 2)");
        due(x().passes(9, 8), 1, "passes(9, 8)");
        due(x().passes(9, 2), 0, "passes(9, 2)");
        due(x().passes(9, 3), 0, "passes(9, 3)");
        due(x().passes(15, 4), 0, "passes(15, 4)");
    }

    // ---- 35 fools

    @Says(promise = 35, words = "Of a 2 .. 999 less than n: few")
    static void fewBases() {
        due(x().fools(3, 0), 1, "fools(3, 0): 2");
        due(x().fools(5, 0), 3, "fools(5, 0): 2, 3, 4");
        due(x().fools(9, 0), 1, "fools(9, 0): 8");
        due(x().fools(9, 1), 2, "fools(9, 1)");
    }

    @Says(promise = 35, words = "Of a 2 .. 999 less than n: up to n less 1, up to 999")
    static void upTo999() {
        due(x().fools(997, 0), 995, "fools(997, 0)");
        due(x().fools(999, 0) >= 1 ? 1 : 0, 1, "fools(999, 0): 998");
        due(x().fools(1009, 0), 998, "fools(1009, 0)");
        due(x().fools(1_000_003, 0), 998, "fools(1000003, 0)");
        due(x().fools(LAST_PRIME, 0), 998, "fools(999999937, 0)");
    }

    @Says(promise = 35, words = "the least by which it does not (1; 0: by all)")
    static void byAll() {
        due(x().fools(3, 1), 0, "fools(3, 1)");
        due(x().fools(1009, 1), 0, "fools(1009, 1)");
        due(x().fools(LAST_PRIME, 1), 0, "fools(999999937, 1)");
        due(x().fools(15, 1), 2, "fools(15, 1)");
        due(x().fools(2047, 1), 3, "fools(2047, 1)");
        due(x().fools(1_373_653, 1), 5, "fools(1373653, 1)");
        due(x().fools(25_326_001, 1), 7, "fools(25326001, 1)");
    }

    @Says(promise = 35, words = "NONE: others, as in passes()")
    static void foolsOfOthers() {
        for (int n : new int[] {MIN, -7, -1, 0, 1, 2, 4, 1000, MOST, MOST + 1, MAX}) {
            due(x().fools(n, 0), NONE, "fools(" + n + ", 0)");
            due(x().fools(n, 1), NONE, "fools(" + n + ", 1)");
        }
        for (int what : new int[] {MIN, -1, 2, 3, MAX}) {
            due(x().fools(7, what), NONE, "fools(7, " + what + ")");
        }
    }

    // ---- 36 power

    @Says(promise = 36, words = "a (0 on), k (0 on)")
    static void powersOf0() {
        due(x().power(0, 0, 7), 1, "power(0, 0, 7)");
        due(x().power(0, 1, 7), 0, "power(0, 1, 7)");
        due(x().power(0, MAX, 7), 0, "power(0, MAX, 7)");
        due(x().power(5, 0, 7), 1, "power(5, 0, 7)");
        due(x().power(5, 1, 7), 5, "power(5, 1, 7)");
        due(x().power(MAX, 0, MAX), 1, "power(MAX, 0, MAX)");
    }

    @Says(promise = 36, words = "by m (1 on): 1")
    static void powersBy1() {
        due(x().power(0, 0, 1), 0, "power(0, 0, 1)");
        due(x().power(5, 0, 1), 0, "power(5, 0, 1)");
        due(x().power(5, 5, 1), 0, "power(5, 5, 1)");
        due(x().power(MAX, MAX, 1), 0, "power(MAX, MAX, 1)");
    }

    @Says(promise = 36, words = "What is left: of the greatest")
    static void theGreatestPowers() {
        due(x().power(MAX, MAX, MAX), 0, "power(MAX, MAX, MAX)");
        due(x().power(MAX - 1, MAX, MAX), MAX - 1, "power(MAX - 1, MAX, MAX)");
        due(x().power(MAX - 1, MAX - 1, MAX), 1, "power(MAX - 1, MAX - 1, MAX)");
        due(x().power(MAX, 2, MAX - 1), 1, "power(MAX, 2, MAX - 1)");
        due(x().power(3, MAX, MAX), 3, "power(3, MAX, MAX): MAX is a prime");
        due(x().power(2, 31, MAX), 1, "power(2, 31, MAX)");
        due(x().power(2, 30, MAX), 1 << 30, "power(2, 30, MAX)");
    }

    @Says(promise = 36, words = "NONE; others")
    static void powerOfOthers() {
        for (int below : new int[] {MIN, -2, -1}) {
            due(x().power(below, 2, 7), NONE, "power(" + below + ", 2, 7)");
            due(x().power(2, below, 7), NONE, "power(2, " + below + ", 7)");
            due(x().power(2, 2, below), NONE, "power(2, 2, " + below + ")");
        }
        due(x().power(2, 2, 0), NONE, "power(2, 2, 0)");
        due(x().power(0, 0, 0), NONE, "power(0, 0, 0)");
    }

    // ---- 37 order

    @Says(promise = 37, words = "The least k (1 on)")
    static void theLeastOrder() {
        due(x().order(1, 2), 1, "order(1, 2)");
        due(x().order(1, 999_983), 1, "order(1, 999983)");
        due(x().order(8, 7), 1, "order(8, 7)");
        due(x().order(MAX, 2), 1, "order(MAX, 2)");
        due(x().order(6, 7), 2, "order(6, 7)");
    }

    @Says(promise = 37, words = "m (2 .. 1,000,000)")
    static void theEdgesOfM() {
        due(x().order(3, 2), 1, "order(3, 2)");
        due(x().order(3, 1_000_000), 50_000, "order(3, 1000000)");
        due(x().order(1, 1_000_000), 1, "order(1, 1000000)");
        due(x().order(5, 999_983), 999_982, "order(5, 999983)");
        for (int m : new int[] {MIN, -1, 0, 1, 1_000_001, MAX}) {
            due(x().order(1, m), NONE, "order(1, " + m + ")");
            due(x().order(2, m), NONE, "order(2, " + m + ")");
        }
    }

    @Says(promise = 37, words = "-2: COMMON of a and m isn't 1")
    static void somethingInCommon() {
        due(x().order(0, 2), NOT, "order(0, 2)");
        due(x().order(0, 1_000_000), NOT, "order(0, 1000000)");
        due(x().order(2, 1_000_000), NOT, "order(2, 1000000)");
        due(x().order(6, 9), NOT, "order(6, 9)");
        due(x().order(7, 7), NOT, "order(7, 7)");
        due(x().order(MAX - 1, 9), NOT, "order(MAX - 1, 9)");
    }

    @Says(promise = 37, words = "NONE: others, a below 0")
    static void belowNoA() {
        for (int a : new int[] {MIN, -6, -2, -1}) {
            due(x().order(a, 7), NONE, "order(" + a + ", 7)");
            due(x().order(a, 2), NONE, "order(" + a + ", 2)");
            due(x().order(a, 1), NONE, "order(" + a + ", 1)");
        }
        due(x().order(MAX, 25), 20, "order(MAX, 25): MAX is 22");
    }

    // ---- 38 jacobi

    @Says(promise = 38, words = "JACOBI: by 1")
    static void jacobiBy1() {
        for (int a : new int[] {MIN, -1, 0, 1, 2, MAX}) {
            due(x().jacobi(a, 1), 1, "jacobi(" + a + ", 1)");
        }
    }

    @Says(promise = 38, words = "JACOBI: of 0, of multiples")
    static void jacobiOf0() {
        due(x().jacobi(0, 3), 0, "jacobi(0, 3)");
        due(x().jacobi(0, MAX), 0, "jacobi(0, MAX)");
        due(x().jacobi(MAX, MAX), 0, "jacobi(MAX, MAX)");
        due(x().jacobi(-MAX, MAX), 0, "jacobi(-MAX, MAX)");
        due(x().jacobi(6, 9), 0, "jacobi(6, 9)");
        due(x().jacobi(-3, 15), 0, "jacobi(-3, 15)");
    }

    @Says(promise = 38, words = "JACOBI: of a below 0")
    static void jacobiBelow0() {
        due(x().jacobi(-1, 3), -1, "jacobi(-1, 3)");
        due(x().jacobi(-1, 5), 1, "jacobi(-1, 5)");
        due(x().jacobi(-2, 3), 1, "jacobi(-2, 3)");
        due(x().jacobi(-2, 5), -1, "jacobi(-2, 5)");
        due(x().jacobi(-1, MAX), -1, "jacobi(-1, MAX)");
        // MIN is -2 to the 31, -2 times a square: 1 by 3, -1 by 5.
        due(x().jacobi(MIN, 3), 1, "jacobi(MIN, 3)");
        due(x().jacobi(MIN, 5), -1, "jacobi(MIN, 5)");
        due(x().jacobi(MIN, MAX), -1, "jacobi(MIN, MAX): MIN is -1");
    }

    @Says(promise = 38, words = "JACOBI (0, 1, -1) of a and an odd m that is no prime")
    static void jacobiOfNoPrime() {
        due(x().jacobi(2, 15), 1, "jacobi(2, 15): no square, yet 1");
        due(x().jacobi(2, 9), 1, "jacobi(2, 9)");
        due(x().jacobi(7, 15), -1, "jacobi(7, 15)");
        due(x().jacobi(2, 561), 1, "jacobi(2, 561)");
        due(x().jacobi(5, 999_999_999), 1, "jacobi(5, 999999999)");
    }

    @Says(promise = 38, words = "-2: m is even")
    static void jacobiByEven() {
        for (int m : new int[] {2, 4, 8, MOST, MAX - 1}) {
            due(x().jacobi(1, m), NOT, "jacobi(1, " + m + ")");
            due(x().jacobi(0, m), NOT, "jacobi(0, " + m + ")");
        }
    }

    @Says(promise = 38, words = "-2: below 1")
    static void jacobiBelow1() {
        for (int m : new int[] {0, -1, -2, -3, -7, -MAX, MIN}) {
            due(x().jacobi(1, m), NOT, "jacobi(1, " + m + ")");
        }
    }

    // ---- 39 u

    @Says(promise = 39, words = "What is left of U(k) (0 on)")
    static void uFrom0On() {
        due(x().u(5, 3, 0, 1000), 0, "u(5, 3, 0, 1000)");
        due(x().u(5, 3, 1, 1000), 1, "u(5, 3, 1, 1000)");
        due(x().u(5, 3, 2, 1000), 5, "u(5, 3, 2, 1000)");
        due(x().u(5, 3, 3, 1000), 22, "u(5, 3, 3, 1000)");
        due(x().u(1, 2, 3, 1000), 999, "u(1, 2, 3, 1000): -1");
    }

    @Says(promise = 39, words = "k: the greatest")
    static void uOfTheGreatestK() {
        // By P 3 and Q 2 it is 2 to the k, less 1; by P 2 and Q 1 it is k; by P 1 and Q 1 it is 0, 1, 1, 0, -1, -1.
        due(x().u(3, 2, MAX, 1_000_000_000), x().power(2, MAX, 1_000_000_000) - 1, "u(3, 2, MAX, 1000000000)");
        due(x().u(2, 1, MAX, 1_000_000_000), MAX % 1_000_000_000, "u(2, 1, MAX, 1000000000)");
        due(x().u(1, 1, MAX, 1_000_000_000), 1, "u(1, 1, MAX, 1000000000): MAX is 1 by 6");
        due(x().u(1, 1, MAX - 2, 1_000_000_000), 999_999_999, "u(1, 1, MAX - 2, 1000000000)");
        due(x().u(3, 2, 1 << 30, 999_999_937), x().power(2, 1 << 30, 999_999_937) - 1, "u(3, 2, 2 to the 30, 999999937)");
    }

    @Says(promise = 39, words = "by m (1 .. 1,000,000,000)")
    static void uByTheEdges() {
        due(x().u(5, 3, 0, 1), 0, "u(5, 3, 0, 1)");
        due(x().u(5, 3, 1, 1), 0, "u(5, 3, 1, 1)");
        due(x().u(5, 3, 9, 1), 0, "u(5, 3, 9, 1)");
        due(x().u(5, 3, 3, 2), 0, "u(5, 3, 3, 2)");
        due(x().u(5, 3, 2, 2), 1, "u(5, 3, 2, 2)");
        due(x().u(99, 1, 2, MOST), 99, "u(99, 1, 2, 1000000000)");
        for (int m : new int[] {MIN, -1, 0, MOST + 1, MAX}) {
            due(x().u(5, 3, 1, m), NONE, "u(5, 3, 1, " + m + ")");
        }
    }

    @Says(promise = 39, words = "P and Q 1 .. 99")
    static void uOfTheEdges() {
        due(x().u(1, 1, 2, 1000), 1, "u(1, 1, 2, 1000)");
        due(x().u(99, 99, 3, 1_000_000), 9702, "u(99, 99, 3, 1000000)");
        due(x().u(1, 99, 3, 1000), 902, "u(1, 99, 3, 1000)");
        due(x().u(99, 1, 3, 1_000_000), 9800, "u(99, 1, 3, 1000000)");
        for (int v : new int[] {MIN, -1, 0, 100, 101, MAX}) {
            due(x().u(v, 1, 1, 7), NONE, "u(" + v + ", 1, 1, 7)");
            due(x().u(1, v, 1, 7), NONE, "u(1, " + v + ", 1, 7)");
        }
    }

    @Says(promise = 39, words = "NONE: others: k below 0")
    static void uBelow0() {
        for (int k : new int[] {MIN, -2, -1}) {
            due(x().u(5, 3, k, 7), NONE, "u(5, 3, " + k + ", 7)");
        }
    }

    // ---- 40 units

    @Says(promise = 40, words = "How many numbers 1 .. m, to which m has nothing in COMMON but 1: the least")
    static void theLeastUnits() {
        due(x().units(1), 1, "units(1)");
        due(x().units(2), 1, "units(2)");
        due(x().units(3), 2, "units(3)");
        due(x().units(4), 2, "units(4)");
    }

    @Says(promise = 40, words = "How many numbers 1 .. m: the greatest")
    static void theGreatestUnits() {
        due(x().units(MOST), 400_000_000, "units(1000000000)");
        due(x().units(LAST_PRIME), LAST_PRIME - 1, "units(999999937)");
        due(x().units(999_002_449), 31_607 * 31_606, "units of 31607 times 31607");
        due(x().units(NINE_PRIMES), 36_495_360, "units of nine primes");
        due(x().units(536_870_912), 268_435_456, "units of 2 to the 29");
    }

    @Says(promise = 40, words = "NONE: m is not 1 .. 1,000,000,000")
    static void unitsOfOthers() {
        for (int m : new int[] {MIN, -1, 0, MOST + 1, MAX}) {
            due(x().units(m), NONE, "units(" + m + ")");
        }
    }

    // ---- 41 count

    @Says(promise = 41, words = "0 LINES, 1 RIGHT ones, 2 ROWS of all, 3 bytes of the tape: none")
    static void nothingToCount() {
        PrimeProofs x = x();
        for (int what = 0; what <= 6; what++) {
            due(x.count(what), 0, "count(" + what + ")");
        }
    }

    @Says(promise = 41, words = "0 LINES, 1 RIGHT ones: 60")
    static void sixtyToCount() {
        PrimeProofs x = withTwos(60);
        due(x.count(0), 60, "count(0)");
        due(x.count(1), 60, "count(1)");
        due(x.set(59, 0, 4), 2, "set");
        due(x.count(0), 60, "count(0)");
        due(x.count(1), 59, "count(1)");
    }

    @Says(promise = 41, words = "2 ROWS of all: of both sides, of those that are not RIGHT, too")
    static void rowsOfAll() {
        PrimeProofs x = with("both 7 with 1 1 down" + " 2 1 2".repeat(9) + " up" + " 2 1".repeat(9) + ";part 9 by 2 1 2;small 2;");
        due(x.count(2), 19, "count(2)");
        due(x.cut(0, true, 0), 8, "cut");
        due(x.count(2), 18, "count(2)");
    }

    @Says(promise = 41, words = "3 bytes of the tape: 400")
    static void bytesOfTheTape() {
        PrimeProofs x = x();
        feed(x, "x");
        due(x.count(3), 1, "count(3)");
        due(x.back(1), 0, "back");
        feed(x, "x".repeat(400));
        due(x.count(3), 400, "count(3)");
        due(x.read(), -4, "read");
        due(x.count(3), 0, "count(3)");
    }

    @Says(promise = 41, words = "4 the greatest NUMBER for which there is a RIGHT LINE (0: none)")
    static void theGreatestNumber() {
        PrimeProofs x = with("small 1000;part 999999937 by;");
        due(x.count(4), 0, "none is RIGHT");
        due(x.find(2, 0), 2, "find");
        due(x.count(4), 2, "2 alone");
        due(x.find(97, 0), 3, "find");
        due(x.find(3, 0), 4, "find");
        due(x.count(4), 97, "97");
        due(x.clear(), 5, "clear");
        due(x.count(4), 0, "none");
        int found = x.find(LAST_PRIME, 2);
        due(x.count(4), LAST_PRIME, "the greatest prime, line " + found);
        due(with("small 97;small 3;").count(4), 97, "the first line alone");
    }

    @Says(promise = 41, words = "5 how deep the deepest RIGHT one RESTS (0 without)")
    static void theDeepestOne() {
        PrimeProofs x = with("small 3;part 7 by 3 1 2;part 29 by 7 1 2;small 5;");
        due(x.count(5), 2, "count(5)");
        due(x.set(1, 0, 9), 7, "set");
        due(x.count(5), 0, "none is deep that is RIGHT");
        due(x.set(1, 0, 7), 9, "set");
        due(x.count(5), 2, "count(5)");
        due(x.set(0, 0, 4), 3, "set");
        due(x.count(5), 0, "SMALL alone");
    }

    @Says(promise = 41, words = "6 what all RIGHT ones cost together")
    static void whatAllCost() {
        PrimeProofs x = with("small 2;small 3;pratt 7 base 3 by 2 1 3 1;part 7 by 3 1 2;lucas 7 with 1 3 by 2 3;pratt 7 base 2 by 2 1 3 1;");
        due(x.count(6), 9 + 4, "count(6)");
        due(x.set(1, 0, 4), 3, "set");
        due(x.count(6), 0, "LUCAS and SMALL alone");
    }

    @Says(promise = 41, words = "NONE for others")
    static void countOfOthers() {
        PrimeProofs x = with("small 2;");
        for (int what : new int[] {MIN, -2, -1, 7, 8, MAX}) {
            due(x.count(what), NONE, "count(" + what + ")");
        }
    }
}
