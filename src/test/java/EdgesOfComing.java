/** Each sentence of promises 1 to 5 that names an edge: a new object, lines found, the tape, lines told. */
final class EdgesOfComing extends Tests {
    private static final long SIXTY = (1L << 60) - 1;

    // ---- 1 A new object

    @Says(promise = 1, words = "No LINES")
    static void noLines() {
        PrimeProofs x = new PrimeProofs();
        due(x.count(0), 0, "lines");
        due(x.right(), 0, "RIGHT ones");
        due(x.drop(), NONE, "drop");
        due(x.clear(), 0, "clear");
        due(x.proof(2), NOT, "proof(2)");
        due(x.line(0, 0), NONE, "line(0, 0)");
        due(x.back(1), NONE, "back(1): the tape is empty");
    }

    @Says(promise = 1, words = "No LINES, though another object has some")
    static void objectsShareNothing() {
        PrimeProofs x = with("small 2;");
        feed(x, "small 3;");
        PrimeProofs y = new PrimeProofs();
        due(y.count(0), 0, "lines");
        due(y.count(3), 0, "the tape");
        due(y.find(3, 1), 1, "find");
        due(x.count(0), 1, "lines of the first one");
        due(x.read(), 1, "read of the first one");
    }

    @Says(promise = 1, words = "NONE = -1")
    static void theConstant() {
        due(PrimeProofs.NONE, -1, "NONE");
    }

    @Says(promise = 1, words = "An object is used for at most 512 calls")
    static void theLast512thCall() {
        PrimeProofs x = new PrimeProofs();
        for (int call = 1; call <= 510; call++) {
            due(x.find(999_999_937, call % 2 == 0 ? 5 : -1), NONE, "call " + call);
        }
        due(x.find(3, 1), 1, "call 511");
        due(x.right(), 3, "call 512");
    }

    // ---- 2 find

    @Says(promise = 2, words = "its number")
    static void theNumberOfTheLastOne() {
        PrimeProofs x = new PrimeProofs();
        due(x.find(7, 0), 0, "nothing comes ahead of it");
        due(x.find(29, 1), 2, "one comes ahead of it");
        due(x.find(11, 1), 4, "one more comes ahead of it");
    }

    @Says(promise = 2, words = "that of the least RIGHT LINE of that SORT for n, if there is one (nothing comes)")
    static void thereIsOne() {
        PrimeProofs x = with("small 2;small 3;part 7 by 3 1 2;small 7;part 7 by 3 1 2;small 7;");
        nothing(x, () -> x.find(7, 2), 2, "the least PART");
        nothing(x, () -> x.find(7, 0), 3, "the least SMALL");
        due(x.find(7, 1), 6, "there was no PRATT");
    }

    @Says(promise = 2, words = "the least RIGHT LINE of that SORT: one that is not RIGHT is none")
    static void oneThatIsNotRightIsNone() {
        PrimeProofs x = with("part 7 by;part 7 by 3 1 2;small 3;part 7 by 3 1 2;");
        due(x.find(7, 2), 3, "the fourth line");
        PrimeProofs y = with("part 7 by;small 3;");
        due(y.find(7, 2), 2, "it comes again");
    }

    @Says(promise = 2, words = "the least RIGHT LINE of that SORT: one of another SORT is none")
    static void oneOfAnotherSortIsNone() {
        PrimeProofs x = new PrimeProofs();
        due(x.find(7, 0), 0, "SMALL");
        due(x.find(7, 2), 2, "PART");
        due(x.find(7, 1), 4, "PRATT");
        due(x.find(7, 3), 5, "LUCAS");
        due(x.find(7, 4), 6, "BOTH");
    }

    @Says(promise = 2, words = "if there is one (nothing comes): the ledger is full")
    static void thereIsOneInAFullLedger() {
        PrimeProofs x = withTwos(60);
        nothing(x, () -> x.find(2, 0), 0, "find(2, 0)");
    }

    @Says(promise = 2, words = "-2, and nothing happens: n is no prime")
    static void noPrime() {
        PrimeProofs x = with("small 2;");
        // Some that look like primes by 2, 3, 5 or 7, and squares.
        int[] all = {4, 9, 91, 561, 2047, 2_284_453, 25_326_001, 746_331_041, 1_024_651, 999_950_884, 999_002_449, 999_999_999, MOST};
        for (int sort = 0; sort <= 4; sort++) {
            int s = sort;
            nothing(x, () -> x.find(4, s), NOT, "find(4, " + s + ")");
            for (int n : all) {
                due(x.find(n, s), NOT, "find(" + n + ", " + s + ")");
            }
        }
        due(x.count(0), 1, "lines");
    }

    @Says(promise = 2, words = "-2: none such is FOUND (SMALL of 100 and more)")
    static void smallOf100AndMore() {
        PrimeProofs x = new PrimeProofs();
        nothing(x, () -> x.find(101, 0), NOT, "find(101, 0)");
        nothing(x, () -> x.find(LAST_PRIME, 0), NOT, "find of the greatest prime");
        due(x.find(97, 0), 0, "find(97, 0)");
    }

    @Says(promise = 2, words = "-2: none such is FOUND (2 but as SMALL)")
    static void twoButAsSmall() {
        PrimeProofs x = new PrimeProofs();
        for (int sort = 1; sort <= 4; sort++) {
            int s = sort;
            nothing(x, () -> x.find(2, s), NOT, "find(2, " + s + ")");
        }
        due(x.find(2, 0), 0, "find(2, 0)");
    }

    @Says(promise = 2, words = "-3, and nothing happens: there would be more than 60: one alone")
    static void oneTooMany() {
        PrimeProofs x = withTwos(60);
        nothing(x, () -> x.find(3, 0), FULL, "find(3, 0)");
        nothing(x, () -> x.find(3, 1), FULL, "find(3, 1)");
        nothing(x, () -> x.find(5, 4), FULL, "find(5, 4)");
        due(x.right(), SIXTY, "RIGHT ones");
    }

    @Says(promise = 2, words = "-3, and nothing happens: there would be more than 60: the last one of some")
    static void theLastOneIsTooMany() {
        // For 1009 as PRATT 3, 7 and itself come.
        PrimeProofs x = withTwos(58);
        nothing(x, () -> x.find(1009, 1), FULL, "find(1009, 1)");
        due(x.right(), (1L << 58) - 1, "RIGHT ones");
        due(x.find(3, 0), 58, "there is room for 3");
        nothing(x, () -> x.find(1009, 1), FULL, "find(1009, 1)");
        due(x.find(7, 0), 59, "there is room for 7");
        nothing(x, () -> x.find(1009, 1), FULL, "find(1009, 1)");
        due(x.right(), SIXTY, "RIGHT ones");
    }

    @Says(promise = 2, words = "-3: more than 60 (60 there may be)")
    static void sixtyThereMayBe() {
        PrimeProofs x = withTwos(57);
        due(x.find(1009, 1), 59, "find(1009, 1)");
        due(x.count(0), 60, "lines");
        due(x.right(), SIXTY, "RIGHT ones");
    }

    @Says(promise = 2, words = "-3, and nothing happens: the tape, too")
    static void theTapeStaysBehindFind() {
        PrimeProofs x = withTwos(59);
        feed(x, "small 7;");
        due(x.find(1009, 1), FULL, "find(1009, 1)");
        due(x.count(3), 8, "the tape");
        due(x.read(), 1, "read");
        spelled(x, 59, "small 7;");
    }

    @Says(promise = 2, words = "-2 in a full ledger: n is no prime, or none such is FOUND")
    static void noneIsFoundInAFullLedger() {
        PrimeProofs x = withTwos(60);
        nothing(x, () -> x.find(9, 1), NOT, "find(9, 1)");
        nothing(x, () -> x.find(101, 0), NOT, "find(101, 0)");
        nothing(x, () -> x.find(2, 1), NOT, "find(2, 1)");
    }

    @Says(promise = 2, words = "NONE: no such SORT")
    static void noSuchSort() {
        PrimeProofs x = with("small 7;");
        for (int sort : new int[] {MIN, -2, -1, 5, 6, MAX}) {
            nothing(x, () -> x.find(7, sort), NONE, "find(7, " + sort + ")");
        }
        due(x.find(7, 4), 2, "find(7, 4)");
    }

    @Says(promise = 2, words = "NONE: no NUMBER")
    static void noNumber() {
        PrimeProofs x = with("small 7;");
        for (int n : NO_NUMBERS) {
            nothing(x, () -> x.find(n, 0), NONE, "find(" + n + ", 0)");
            due(x.find(n, 4), NONE, "find(" + n + ", 4)");
        }
        due(x.find(LEAST, 0), 1, "the least NUMBER");
        due(x.find(MOST, 0), NOT, "the greatest NUMBER");
    }

    // ---- 3 feed

    @Says(promise = 3, words = "Twenty bytes, the highest of a first")
    static void theHighestByteOfAFirst() {
        PrimeProofs x = new PrimeProofs();
        // "smal", "l 7;", "part", " 7 b", "y ; "
        due(x.feed(0x736D616C, 0x6C20373B, 0x70617274, 0x20372062, 0x79203B20), 20, "feed");
        due(x.read(), 2, "read");
        spelled(x, 0, "small 7;");
        spelled(x, 1, "part 7 by;");
    }

    @Says(promise = 3, words = "Twenty bytes: those of 128 and more, too")
    static void bytesAbove127() {
        PrimeProofs x = new PrimeProofs();
        // A byte of 255 is one sign, and stands nowhere; the bytes around it stay.
        due(x.feed(0x736D616C, 0x6C20373B, 0xFF736D61, 0x6C6C2037, 0x3B202020), 20, "feed");
        due(x.read(), -4 - 8, "read");
        due(x.feed(0x736D616C, 0x6C2037BB, 0x20202020, 0x20202020, 0x20202020), 20, "feed");
        due(x.read(), -4 - 7, "read: 187 is no ;");
        due(x.feed(0x73ED616C, 0x6C20373B, 0x20202020, 0x20202020, 0x20202020), 20, "feed");
        due(x.read(), -4, "read: 237 is no m");
    }

    @Says(promise = 3, words = "come behind the tape: how many it has")
    static void theyComeBehindTheTape() {
        PrimeProofs x = new PrimeProofs();
        for (int feeds = 1; feeds <= 20; feeds++) {
            due(x.feed(0x20202020, 0x20202020, 0x20202020, 0x20202020, 0x20202020), 20 * feeds, "feed " + feeds);
        }
        due(x.count(3), 400, "the tape");
        due(x.back(392), 8, "back");
        due(x.feed(0x736D616C, 0x6C20373B, 0x20202020, 0x20202020, 0x20202020), 28, "feed");
        due(x.read(), 1, "read");
    }

    @Says(promise = 3, words = "NONE, and nothing comes, if it would have more than 400: it is full")
    static void theTapeIsFull() {
        PrimeProofs x = new PrimeProofs();
        feed(x, "small 2;".repeat(50));
        due(x.feed(0, 0, 0, 0, 0), NONE, "feed");
        due(x.feed(MIN, MAX, -1, 0, 1), NONE, "feed");
        due(x.count(3), 400, "the tape");
        due(x.read(), 50, "nothing came");
    }

    @Says(promise = 3, words = "more than 400: 401 it would have")
    static void oneByteTooMany() {
        PrimeProofs x = new PrimeProofs();
        feed(x, "small 2;".repeat(47));
        due(x.count(3), 376, "the tape");
        feed(x, "     ");
        due(x.count(3), 381, "the tape");
        due(x.feed(0x20202020, 0x20202020, 0x20202020, 0x20202020, 0x20202020), NONE, "feed up to 401");
        due(x.count(3), 381, "the tape");
        due(x.back(1), 380, "back");
        due(x.feed(0x20202020, 0x20202020, 0x20202020, 0x20202020, 0x20202020), 400, "feed up to 400");
        due(x.read(), 47, "read");
    }

    // ---- 4 back

    @Says(promise = 4, words = "The last n bytes of the tape go: how many it has")
    static void theLastBytesGo() {
        PrimeProofs x = new PrimeProofs();
        feed(x, "small 7;small 11;xyz");
        due(x.back(3), 17, "back(3)");
        due(x.back(9), 8, "back(9)");
        due(x.read(), 1, "read");
        spelled(x, 0, "small 7;");
    }

    @Says(promise = 4, words = "The last n bytes go: none")
    static void noBytesGo() {
        PrimeProofs x = new PrimeProofs();
        due(x.back(0), 0, "back(0) of the empty tape");
        feed(x, "small 7;");
        due(x.back(0), 8, "back(0)");
        due(x.read(), 1, "read");
    }

    @Says(promise = 4, words = "The last n bytes go: all")
    static void allBytesGo() {
        PrimeProofs x = new PrimeProofs();
        feed(x, "small 7;".repeat(50));
        due(x.back(400), 0, "back(400)");
        due(x.read(), 0, "read");
        due(x.feed(0x20202020, 0x20202020, 0x20202020, 0x20202020, 0x20202020), 20, "feed");
        due(x.back(20), 0, "back(20)");
    }

    @Says(promise = 4, words = "NONE, and nothing goes, if it has not so many")
    static void notSoMany() {
        PrimeProofs x = new PrimeProofs();
        due(x.back(1), NONE, "back(1) of the empty tape");
        feed(x, "small 7;");
        due(x.back(9), NONE, "back(9)");
        due(x.back(400), NONE, "back(400)");
        due(x.back(MAX), NONE, "back of the most");
        due(x.count(3), 8, "the tape");
        due(x.read(), 1, "read");
    }

    @Says(promise = 4, words = "NONE, and nothing goes, if n is below 0")
    static void belowNoBytes() {
        PrimeProofs x = new PrimeProofs();
        due(x.back(-1), NONE, "back(-1) of the empty tape");
        feed(x, "small 7;");
        due(x.back(-1), NONE, "back(-1)");
        due(x.back(MIN), NONE, "back of the least");
        due(x.count(3), 8, "the tape");
        due(x.read(), 1, "read");
    }

    // ---- 5 read

    @Says(promise = 5, words = "The tape (empty then) tells LINES: how many")
    static void theTapeIsEmptyThen() {
        PrimeProofs x = new PrimeProofs();
        due(read(x, "small 2;small 3;"), 2, "read");
        due(x.count(3), 0, "the tape");
        due(x.read(), 0, "read again");
        due(x.count(0), 2, "lines");
    }

    @Says(promise = 5, words = "The tape tells LINES: an empty one tells none")
    static void anEmptyTape() {
        PrimeProofs x = with("small 2;");
        nothing(x, () -> x.read(), 0, "read");
    }

    @Says(promise = 5, words = "The tape (empty then, behind a FAULT, too)")
    static void theTapeIsEmptyBehindAFault() {
        PrimeProofs x = with("small 2;");
        due(read(x, "small 3;small 1;"), -4 - 14, "read");
        due(x.count(3), 0, "the tape");
        due(x.count(0), 1, "lines");
        due(x.read(), 0, "read again");
    }

    @Says(promise = 5, words = "-4 less its FAULT: the first byte")
    static void theLeastFault() {
        fault("x", 0);
        fault("1", 0);
        fault(";", 0);
    }

    @Says(promise = 5, words = "-4 less its FAULT: the last byte, and behind it")
    static void theGreatestFault() {
        PrimeProofs x = new PrimeProofs();
        due(read(x, "small 2;".repeat(49) + "small 1:"), -4 - 398, "an INT");
        due(read(x, "small 2;".repeat(49) + "small 2:"), -4 - 399, "the last byte");
        due(read(x, "small 2;".repeat(49) + "small 23"), -4 - 400, "its length");
        due(x.count(0), 0, "lines");
    }

    @Says(promise = 5, words = "-3 (without one), and no LINE comes: there would be more than 60")
    static void moreThan60() {
        PrimeProofs x = withTwos(50);
        feed(x, "small 3;".repeat(11));
        due(x.read(), FULL, "read of 11");
        due(x.count(0), 50, "lines");
        due(x.right(), (1L << 50) - 1, "RIGHT ones");
        due(x.count(3), 0, "the tape");
        due(x.read(), 0, "read again");
    }

    @Says(promise = 5, words = "more than 60 (60 there may be)")
    static void sixtyTold() {
        PrimeProofs x = withTwos(50);
        due(read(x, "small 3;".repeat(10)), 10, "read of 10");
        due(x.count(0), 60, "lines");
        due(x.right(), SIXTY, "RIGHT ones");
    }

    @Says(promise = 5, words = "more than 60: one more than a full ledger has")
    static void oneMoreThanAFullLedgerHas() {
        PrimeProofs x = withTwos(60);
        feed(x, "small 3;");
        due(x.read(), FULL, "read of one");
        due(x.count(0), 60, "lines");
        due(x.count(3), 0, "the tape");
        due(x.proof(3), NOT, "proof(3)");
    }

    @Says(promise = 5, words = "-3 (without [a FAULT])")
    static void aFaultIsToldAheadOf60() {
        PrimeProofs x = withTwos(60);
        due(read(x, "small 3;small"), -4 - 13, "read");
        due(read(x, "small 3;;"), -4 - 8, "read");
        due(x.count(0), 60, "lines");
    }

    @Says(promise = 5, words = "how many: none, in a full ledger, too")
    static void nothingToldInAFullLedger() {
        PrimeProofs x = withTwos(60);
        due(x.read(), 0, "read of an empty tape");
        due(read(x, "    "), 0, "read of blanks");
    }

    @Says(promise = 5, words = "LINES come as told, be they RIGHT or not")
    static void wrongLinesCome() {
        PrimeProofs x = with("small 4;part 8 by;lucas 4 with 1 1 by;");
        due(x.count(0), 3, "lines");
        due(x.right(), 0, "RIGHT ones");
        due(read(x, "small 2;part 3 by 2 1 2;"), 2, "read");
        due(x.right(), 24, "RIGHT ones");
    }
}
