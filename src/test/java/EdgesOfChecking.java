/** Each sentence of promises 14 to 24 that names an edge: what lines have, rest on, cost, and how they are spelled. */
final class EdgesOfChecking extends Tests {
    private static final String ALL = "small 2;small 3;pratt 7 base 3 by 2 1 3 1;part 7 by 3 1 2;lucas 7 with 1 3 by 2 3;"
            + "both 7 with 1 3 down 3 1 2 up 2 3;small 9;";
    private static final int SMALL = 0;
    private static final int PRATT = 2;
    private static final int PART = 3;
    private static final int LUCAS = 4;
    private static final int BOTH = 5;
    private static final int WRONG = 6;
    private static final int SIZE = 7;
    private static final int[] NO_LINES = {MIN, -2, -1, SIZE, SIZE + 1, 59, 60, 64, 67, MAX};

    /** 58 lines for 2, then 3 and 7, which rests on 3. */
    private static PrimeProofs full() {
        PrimeProofs x = withTwos(58);
        due(x.find(7, 2), 59, "find");
        return x;
    }

    // ---- 14 line

    @Says(promise = 14, words = "what 0 n, 1 SORT, 2 P, 3 Q, 4 DOWN ROWS, 5 UP ROWS, 6 its FAULT")
    static void whatALineIs() {
        PrimeProofs x = with(ALL);
        int[][] want = {{2, 0, 0, 0, 0, 0, 0}, {3, 0, 0, 0, 0, 0, 0}, {7, 1, 0, 0, 2, 0, 0}, {7, 2, 0, 0, 1, 0, 0},
            {7, 3, 1, 3, 0, 1, 0}, {7, 4, 1, 3, 1, 1, 0}, {9, 0, 0, 0, 0, 0, 1}};
        for (int line = 0; line < SIZE; line++) {
            for (int what = 0; what <= 6; what++) {
                due(x.line(line, what), want[line][what], "line(" + line + ", " + what + ")");
            }
        }
    }

    @Says(promise = 14, words = "2 P, 3 Q (0 of SORTS without)")
    static void pAndQOfSortsWithout() {
        PrimeProofs x = with("lucas 7 with 99 98 by;small 2;pratt 7 base 3 by;part 7 by;");
        due(x.clear(), 4, "clear");
        due(read(x, "small 2;pratt 7 base 3 by;part 7 by;lucas 7 with 99 98 by;"), 4, "read");
        for (int line = 0; line < 3; line++) {
            due(x.line(line, 2), 0, "P of line " + line);
            due(x.line(line, 3), 0, "Q of line " + line);
        }
        due(x.line(3, 2), 99, "P");
        due(x.line(3, 3), 98, "Q");
    }

    @Says(promise = 14, words = "4 DOWN ROWS, 5 UP ROWS: none, nine")
    static void howManyRows() {
        PrimeProofs x = with("both 7 with 1 1 down" + " 2 1 2".repeat(9) + " up" + " 2 1".repeat(9) + ";both 7 with 1 1 down up;");
        due(x.line(0, 4), 9, "DOWN ROWS");
        due(x.line(0, 5), 9, "UP ROWS");
        due(x.line(1, 4), 0, "DOWN ROWS");
        due(x.line(1, 5), 0, "UP ROWS");
    }

    @Says(promise = 14, words = "NONE for others: what")
    static void lineOfNoWhat() {
        PrimeProofs x = with(ALL);
        for (int what : new int[] {MIN, -2, -1, 7, 8, MAX}) {
            due(x.line(BOTH, what), NONE, "line(5, " + what + ")");
        }
    }

    @Says(promise = 14, words = "NONE for others: LINES")
    static void lineOfNoLine() {
        PrimeProofs x = with(ALL);
        for (int line : NO_LINES) {
            for (int what = 0; what <= 6; what++) {
                due(x.line(line, what), NONE, "line(" + line + ", " + what + ")");
            }
        }
        due(x.drop(), 6, "drop");
        due(x.line(6, 0), NONE, "the line that went");
        due(new PrimeProofs().line(0, 0), NONE, "line of a new object");
    }

    @Says(promise = 14, words = "the 60th LINE")
    static void theSixtiethLine() {
        PrimeProofs x = full();
        due(x.line(59, 0), 7, "n");
        due(x.line(59, 6), 0, "its FAULT");
        due(x.line(60, 0), NONE, "n of a 61st");
    }

    // ---- 15 row

    @Says(promise = 15, words = "what 0 q, 1 EXPONENT, 2 BASE")
    static void whatARowIs() {
        PrimeProofs x = with("both 7 with 1 1 down 1000000000 30 999 2 1 2 up 999999999 29 3 2;");
        int[][] down = {{MOST, 30, 999}, {2, 1, 2}};
        int[][] up = {{999_999_999, 29, 0}, {3, 2, 0}};
        for (int i = 0; i < 2; i++) {
            for (int what = 0; what <= 2; what++) {
                due(x.row(0, false, i, what), down[i][what], "row below " + i + ", " + what);
                due(x.row(0, true, i, what), up[i][what], "row above " + i + ", " + what);
            }
        }
    }

    @Says(promise = 15, words = "2 BASE (0 of UP ones)")
    static void noBaseAbove() {
        PrimeProofs x = with(ALL);
        due(x.row(LUCAS, true, 0, 2), 0, "BASE of LUCAS");
        due(x.row(BOTH, true, 0, 2), 0, "BASE above of BOTH");
        due(x.row(BOTH, false, 0, 2), 2, "BASE below of BOTH");
    }

    @Says(promise = 15, words = "3 the least RIGHT LINE ahead for q")
    static void theLeastRightLineAhead() {
        PrimeProofs x = with("part 3 by;small 5;small 3;small 3;part 7 by 3 1 2;");
        due(x.row(4, false, 0, 3), 2, "row");
        PrimeProofs y = with("small 2;small 2;lucas 7 with 1 3 by 2 3;");
        due(y.row(2, true, 0, 3), 0, "row above");
    }

    @Says(promise = 15, words = "whether the LINE itself is RIGHT or not")
    static void ofALineThatIsNotRight() {
        PrimeProofs x = with("small 2;small 3;part 7 by 2 1 3;part 8 by 3 1 2;");
        due(x.line(2, 6), 4, "FAULT of line 2");
        due(x.row(2, false, 0, 3), 0, "row of line 2");
        due(x.line(3, 6), 1, "FAULT of line 3");
        due(x.row(3, false, 0, 3), 1, "row of line 3");
    }

    @Says(promise = 15, words = "(-2: none): none at all, behind, itself, not RIGHT")
    static void noRightLineAhead() {
        PrimeProofs x = with("part 7 by 3 1 2;small 3;small 9;part 19 by 9 1 2 5 1 2;part 7 by 7 1 2;");
        due(x.row(0, false, 0, 3), NOT, "3 is behind");
        due(x.row(3, false, 0, 3), NOT, "9 is not RIGHT");
        due(x.row(3, false, 1, 3), NOT, "5 is not there");
        due(x.row(4, false, 0, 3), NOT, "7 is itself alone");
    }

    @Says(promise = 15, words = "NONE for others: what")
    static void rowOfNoWhat() {
        PrimeProofs x = with(ALL);
        for (int what : new int[] {MIN, -2, -1, 4, 5, MAX}) {
            due(x.row(BOTH, false, 0, what), NONE, "row below, " + what);
            due(x.row(BOTH, true, 0, what), NONE, "row above, " + what);
        }
    }

    @Says(promise = 15, words = "NONE for others: ROWS")
    static void rowOfNoRow() {
        PrimeProofs x = with(ALL);
        // 1431655766 times 3 is 2 by 2 to the 32.
        for (int i : new int[] {MIN, -2, -1, 2, 3, 9, 1_431_655_766, MAX}) {
            for (int what = 0; what <= 3; what++) {
                due(x.row(PRATT, false, i, what), NONE, "ROW " + i + ", " + what);
            }
        }
        due(x.row(BOTH, false, 1, 0), NONE, "DOWN ROW 1");
        due(x.row(BOTH, true, 1, 0), NONE, "UP ROW 1");
        due(x.row(BOTH, true, -1, 3), NONE, "UP ROW -1");
    }

    @Says(promise = 15, words = "NONE for others: ROWS of the other side, ROWS that went")
    static void rowOfNoSide() {
        PrimeProofs x = with(ALL);
        due(x.row(SMALL, false, 0, 0), NONE, "SMALL, below");
        due(x.row(SMALL, true, 0, 0), NONE, "SMALL, above");
        due(x.row(PRATT, true, 0, 0), NONE, "PRATT, above");
        due(x.row(PART, true, 0, 3), NONE, "PART, above");
        due(x.row(LUCAS, false, 0, 0), NONE, "LUCAS, below");
        due(x.cut(PRATT, false, 0), 1, "cut");
        due(x.row(PRATT, false, 1, 0), NONE, "a ROW that went");
        due(x.row(PRATT, false, 0, 0), 3, "the ROW that is left");
    }

    @Says(promise = 15, words = "NONE for others: LINES")
    static void rowOfNoLine() {
        PrimeProofs x = with(ALL);
        for (int line : NO_LINES) {
            for (int what = 0; what <= 3; what++) {
                due(x.row(line, false, 0, what), NONE, "row of line " + line);
            }
        }
        due(new PrimeProofs().row(0, false, 0, 0), NONE, "row of a new object");
    }

    // ---- 16 right

    @Says(promise = 16, words = "LINES that are RIGHT (bits): none")
    static void noneIsRight() {
        due(new PrimeProofs().right(), 0, "right of a new object");
        due(with("small 4;part 7 by;").right(), 0, "right");
    }

    @Says(promise = 16, words = "LINES that are RIGHT (bits): all of 60")
    static void allOfSixtyAreRight() {
        PrimeProofs x = full();
        due(x.right(), (1L << 60) - 1, "right");
        due(x.set(59, 0, 8), 7, "set");
        due(x.right(), (1L << 59) - 1, "the last is not");
        due(x.set(0, 0, 4), 2, "set");
        due(x.right(), (1L << 59) - 2, "the first is not");
        due(x.set(32, 0, 4), 2, "set");
        due(x.right(), (1L << 59) - 2 - (1L << 32), "the 33rd is not");
    }

    // ---- 17 rests

    @Says(promise = 17, words = "LINES that one RESTS on, and itself (bits): itself alone")
    static void restsOnItselfAlone() {
        PrimeProofs x = with(ALL);
        due(x.rests(SMALL), 1, "rests(0)");
        due(x.rests(1), 2, "rests(1)");
        due(full().rests(57), 1L << 57, "rests(57)");
    }

    @Says(promise = 17, words = "and on what these rest on: the last of 60")
    static void restsOfTheSixtieth() {
        PrimeProofs x = full();
        due(x.rests(59), 3L << 58, "rests(59)");
        due(x.move(58, 0), 1, "move");
        due(x.rests(59), 1L << 59 | 1, "rests(59)");
        due(x.drop(), 59, "drop");
        due(x.find(29, 2), NOT + NONE, "two would come, one can");
        due(read(x, "part 7 by 3 1 2;"), 1, "read");
        due(x.move(59, 30), 1, "move");
        due(x.drop(), 59, "drop");
        due(read(x, "part 29 by 7 1 2;"), 1, "read");
        due(x.rests(59), 1L << 59 | 1L << 30 | 1, "rests(59)");
    }

    @Says(promise = 17, words = "-2: it is not RIGHT")
    static void restsOfWhatIsNotRight() {
        PrimeProofs x = with(ALL);
        due(x.rests(WRONG), NOT, "rests(6)");
        due(x.set(1, 0, 4), 3, "set");
        due(x.rests(1), NOT, "rests(1)");
        due(x.rests(PRATT), NOT, "rests(2), which rested on it");
        due(x.rests(LUCAS), 1 | 16, "rests(4), which did not");
    }

    @Says(promise = 17, words = "NONE: no such one")
    static void restsOfNoLine() {
        PrimeProofs x = with(ALL);
        for (int line : NO_LINES) {
            due(x.rests(line), NONE, "rests(" + line + ")");
        }
        due(full().rests(60), NONE, "rests(60)");
        due(full().rests(64), NONE, "rests(64)");
    }

    // ---- 18 deep

    @Says(promise = 18, words = "0 without ROWS")
    static void notDeepWithoutRows() {
        PrimeProofs x = with(ALL);
        due(x.deep(0), 0, "deep(0)");
        due(x.deep(1), 0, "deep(1)");
    }

    @Says(promise = 18, words = "else one more than the deepest it RESTS on")
    static void oneMoreThanTheDeepest() {
        PrimeProofs x = with(ALL);
        for (int line = PRATT; line <= BOTH; line++) {
            due(x.deep(line), 1, "deep(" + line + ")");
        }
        // 83 is 2 times 41 and 1, 41 is 8 times 5 and 1: the deeper one is told first, last.
        PrimeProofs y = with("small 2;small 5;pratt 41 base 6 by 2 3 5 1;pratt 83 base 2 by 41 1 2 1;pratt 83 base 2 by 2 1 41 1;");
        due(y.deep(3), 2, "deep(3)");
        due(y.deep(4), 2, "deep(4)");
    }

    @Says(promise = 18, words = "the deepest it RESTS on: the least LINE for q alone counts")
    static void theLeastLineCounts() {
        PrimeProofs x = with("small 3;part 7 by 3 1 2;small 7;part 29 by 7 1 2;");
        due(x.deep(3), 2, "deep behind PART");
        due(x.move(2, 0), 1, "move");
        due(x.deep(3), 1, "deep behind SMALL");
    }

    // Each is twice the one ahead and 1: 89, 179, 359, 719, 1439, 2879.
    @Says(promise = 18, words = "how deep a LINE RESTS: a chain")
    static void aChain() {
        PrimeProofs x = new PrimeProofs();
        int last = x.find(2879, 2);
        due(x.deep(last), 5, "deep");
        due(x.count(5), 5, "the deepest");
        due(x.deep(last - 1), 4, "deep of the one ahead");
    }

    @Says(promise = 18, words = "-2: it is not RIGHT")
    static void deepOfWhatIsNotRight() {
        PrimeProofs x = with(ALL);
        due(x.deep(WRONG), NOT, "deep(6)");
        due(x.set(1, 0, 4), 3, "set");
        due(x.deep(PART), NOT, "deep(3)");
    }

    @Says(promise = 18, words = "NONE: no such one")
    static void deepOfNoLine() {
        PrimeProofs x = with(ALL);
        for (int line : NO_LINES) {
            due(x.deep(line), NONE, "deep(" + line + ")");
        }
        due(full().deep(60), NONE, "deep(60)");
    }

    // ---- 19 falls

    @Says(promise = 19, words = "LINES that would not be RIGHT any more (itself, too): itself alone")
    static void itselfAloneFalls() {
        PrimeProofs x = with(ALL);
        due(x.falls(PRATT), 4, "falls(2)");
        due(x.falls(BOTH), 32, "falls(5)");
        due(full().falls(59), 1L << 59, "falls(59)");
    }

    @Says(promise = 19, words = "LINES that would not be RIGHT any more: those that name it on either side, and theirs")
    static void allThatNameItFall() {
        PrimeProofs x = with(ALL);
        due(x.falls(0), 1 | 4 | 16 | 32, "falls(0)");
        due(x.falls(1), 2 | 4 | 8 | 32, "falls(1)");
        PrimeProofs y = with("small 3;part 7 by 3 1 2;part 29 by 7 1 2;part 59 by 29 1 2;");
        due(y.falls(0), 15, "a chain");
        due(y.falls(1), 14, "a chain");
        due(full().falls(58), 3L << 58, "falls(58)");
    }

    @Says(promise = 19, words = "another RIGHT LINE ahead for its n stands in for it")
    static void anotherOneStandsIn() {
        PrimeProofs x = with("small 3;small 3;part 7 by 3 1 2;");
        due(x.falls(0), 1, "falls(0)");
        due(x.falls(1), 2, "falls(1)");
        due(full().falls(0), 1, "falls(0) of 60");
    }

    @Says(promise = 19, words = "another RIGHT LINE ahead: one behind does not stand in")
    static void oneBehindDoesNotStandIn() {
        PrimeProofs x = with("small 3;part 7 by 3 1 2;small 3;part 7 by 3 1 2;");
        due(x.falls(0), 3, "falls(0)");
    }

    @Says(promise = 19, words = "another RIGHT LINE ahead: one that falls with it does not stand in")
    static void oneThatFallsDoesNotStandIn() {
        // Both lines for 7 rest on 3.
        PrimeProofs x = with("small 3;part 7 by 3 1 2;part 7 by 3 1 2;part 29 by 7 1 2;");
        due(x.falls(0), 15, "falls(0)");
        due(x.falls(1), 2, "falls(1)");
        PrimeProofs y = with("small 3;part 7 by 3 1 2;part 7 by;part 29 by 7 1 2;");
        due(y.falls(1), 10, "one that is not RIGHT does not");
    }

    @Says(promise = 19, words = "-2: it is not RIGHT")
    static void fallsOfWhatIsNotRight() {
        PrimeProofs x = with(ALL);
        due(x.falls(WRONG), NOT, "falls(6)");
        due(x.set(1, 0, 4), 3, "set");
        due(x.falls(PART), NOT, "falls(3)");
        due(x.falls(0), 1 | 16, "falls(0): those that are not RIGHT do not fall");
    }

    @Says(promise = 19, words = "NONE: no such one")
    static void fallsOfNoLine() {
        PrimeProofs x = with(ALL);
        for (int line : NO_LINES) {
            due(x.falls(line), NONE, "falls(" + line + ")");
        }
        due(full().falls(60), NONE, "falls(60)");
    }

    // ---- 20 cost

    @Says(promise = 20, words = "for each of n less 1 and (n less 1) by q, ROW by ROW: binary digits, and as many as of these are 1, less 2")
    static void whatDownRowsCost() {
        PrimeProofs x = with(ALL);
        // 6 is 110, 3 is 11, 2 is 10.
        due(x.cost(PRATT), 3 + 2 + 3 + 1, "PRATT");
        due(x.cost(PART), 3 + 1, "PART");
        due(x.cost(BOTH), 3 + 1, "BOTH");
    }

    @Says(promise = 20, words = "less 2: of 1 it is 0")
    static void theLeastCost() {
        // 2 is 10, 1 is 1.
        PrimeProofs x = with("small 2;pratt 3 base 2 by 2 1;");
        due(x.cost(1), 1 + 0, "cost(1)");
    }

    @Says(promise = 20, words = "what its DOWN ROWS cost: of the greatest prime")
    static void theGreatestCost() {
        PrimeProofs x = new PrimeProofs();
        int found = x.find(LAST_PRIME, 1);
        int below = LAST_PRIME - 1;
        int cost = 0;
        for (int q : new int[] {2, 3, 13, 83, 1609}) {
            for (int k : new int[] {below, below / q}) {
                cost += Integer.toBinaryString(k).length() + Integer.bitCount(k) - 2;
            }
        }
        due(x.cost(found), cost, "cost");
    }

    @Says(promise = 20, words = "0 for others")
    static void othersCostNothing() {
        PrimeProofs x = with(ALL + "both 7 with 1 3 down up 2 3;");
        due(x.cost(SMALL), 0, "SMALL");
        due(x.cost(LUCAS), 0, "LUCAS");
        due(x.cost(7), 0, "BOTH without DOWN ROWS");
    }

    @Says(promise = 20, words = "-2: it is not RIGHT")
    static void costOfWhatIsNotRight() {
        PrimeProofs x = with(ALL);
        due(x.cost(WRONG), NOT, "SMALL");
        due(x.alter(PRATT, false, 0, 2, 2), 3, "alter");
        due(x.cost(PRATT), NOT, "PRATT");
        due(x.set(LUCAS, 1, 7), 1, "set");
        due(x.cost(LUCAS), NOT, "LUCAS");
    }

    @Says(promise = 20, words = "NONE: no such one")
    static void costOfNoLine() {
        PrimeProofs x = with(ALL);
        for (int line : NO_LINES) {
            due(x.cost(line), NONE, "cost(" + line + ")");
        }
        due(full().cost(60), NONE, "cost(60)");
    }

    // ---- 21 loose

    @Says(promise = 21, words = "By how many BASES 2 .. 999: the least, 2")
    static void theLeastBaseCounts() {
        // By 7 all but 1 and 6 have no FAULT by q 3: 2 is the first of 2, 3, 4, 5, 9 .. 12 and so on.
        PrimeProofs x = with(ALL);
        int good = 0;
        for (int a = 2; a <= 999; a++) {
            good += a % 7 >= 2 && a % 7 <= 5 ? 1 : 0;
        }
        due(x.loose(PART, 0), good, "loose(3, 0)");
        due(x.loose(BOTH, 0), good, "loose(5, 0)");
        due(x.loose(PRATT, 1), good, "loose(2, 1)");
    }

    @Says(promise = 21, words = "By how many BASES 2 .. 999: the greatest, 999")
    static void theGreatestBaseCounts() {
        // 3, 5 and 6 are no squares by 7; 999 is 5, 1000 is 6, 1001 is 0.
        PrimeProofs x = with(ALL);
        int good = 0;
        for (int a = 2; a <= 999; a++) {
            good += a % 7 == 3 || a % 7 == 5 || a % 7 == 6 ? 1 : 0;
        }
        due(x.loose(PRATT, 0), good, "loose(2, 0)");
    }

    @Says(promise = 21, words = "(all else as it is): nothing is altered")
    static void looseAltersNothing() {
        PrimeProofs x = with(ALL);
        nothing(x, () -> x.loose(PRATT, 0), 428, "loose(2, 0)");
        nothing(x, () -> x.loose(PRATT, 1), 572, "loose(2, 1)");
    }

    @Says(promise = 21, words = "of its i-th DOWN ROW: BASES of a great number")
    static void basesOfAGreatNumber() {
        // Of the greatest prime no square is good by 2.
        PrimeProofs x = new PrimeProofs();
        int found = x.find(LAST_PRIME, 1);
        int good = 0;
        for (int a = 2; a <= 999; a++) {
            good += x.jacobi(a, LAST_PRIME) == -1 ? 1 : 0;
        }
        due(x.loose(found, 0), good, "loose");
    }

    @Says(promise = 21, words = "-2: it is not RIGHT")
    static void looseOfWhatIsNotRight() {
        PrimeProofs x = with(ALL);
        due(x.alter(PRATT, false, 0, 2, 2), 3, "alter");
        due(x.loose(PRATT, 0), NOT, "loose(2, 0)");
        due(x.loose(PRATT, 1), NOT, "loose(2, 1)");
    }

    @Says(promise = 21, words = "NONE: no such ROW")
    static void looseOfNoRow() {
        PrimeProofs x = with(ALL);
        for (int i : new int[] {MIN, -2, -1, 2, 3, 9, 1_431_655_766, MAX}) {
            due(x.loose(PRATT, i), NONE, "loose(2, " + i + ")");
        }
        due(x.loose(SMALL, 0), NONE, "SMALL");
        due(x.loose(LUCAS, 0), NONE, "LUCAS");
        due(x.loose(WRONG, 0), NONE, "a SMALL one that is not RIGHT");
        due(x.alter(PRATT, false, 0, 2, 2), 3, "alter");
        due(x.loose(PRATT, 2), NONE, "PRATT that is not RIGHT");
    }

    @Says(promise = 21, words = "NONE: no such ROW: of no LINE")
    static void looseOfNoLine() {
        PrimeProofs x = with(ALL);
        for (int line : NO_LINES) {
            due(x.loose(line, 0), NONE, "loose(" + line + ", 0)");
        }
        due(new PrimeProofs().loose(0, 0), NONE, "loose of a new object");
    }

    // ---- 22 shared

    @Says(promise = 22, words = "LINES that both REST on, or are (bits): none")
    static void theyShareNothing() {
        PrimeProofs x = with(ALL);
        due(x.shared(0, 1), 0, "2 and 3");
        due(x.shared(PART, LUCAS), 0, "PART and LUCAS");
    }

    @Says(promise = 22, words = "LINES that both REST on, or are (bits): itself")
    static void aLineWithItself() {
        PrimeProofs x = with(ALL);
        due(x.shared(PRATT, PRATT), 7, "PRATT");
        due(x.shared(0, 0), 1, "SMALL");
        due(full().shared(59, 59), 3L << 58, "the last of 60");
    }

    @Says(promise = 22, words = "LINES that both REST on, or are (bits): one RESTS on the other")
    static void oneRestsOnTheOther() {
        PrimeProofs x = with(ALL);
        due(x.shared(PRATT, 0), 1, "PRATT and 2");
        due(x.shared(1, PRATT), 2, "3 and PRATT");
        due(x.shared(PRATT, BOTH), 3, "PRATT and BOTH");
        due(full().shared(58, 59), 1L << 58, "the last two of 60");
    }

    @Says(promise = 22, words = "-2: one is not RIGHT")
    static void oneOfTwoIsNotRight() {
        PrimeProofs x = with(ALL);
        due(x.shared(WRONG, 0), NOT, "shared(6, 0)");
        due(x.shared(0, WRONG), NOT, "shared(0, 6)");
        due(x.shared(WRONG, WRONG), NOT, "shared(6, 6)");
    }

    @Says(promise = 22, words = "NONE: no such ones")
    static void sharedOfNoLines() {
        PrimeProofs x = with(ALL);
        for (int line : NO_LINES) {
            due(x.shared(line, 0), NONE, "shared(" + line + ", 0)");
            due(x.shared(0, line), NONE, "shared(0, " + line + ")");
            due(x.shared(line, WRONG), NONE, "shared(" + line + ", 6)");
            due(x.shared(WRONG, line), NONE, "shared(6, " + line + ")");
        }
        due(full().shared(59, 60), NONE, "shared(59, 60)");
    }

    // ---- 23 spell

    @Says(promise = 23, words = "one blank between WORDS, INTS, none ahead of ;")
    static void eachSortIsSpelled() {
        PrimeProofs x = with("  small   0002 ;pratt 7  base 3 by 2 1 3 01 ; part 7 by 3 1 2 ;lucas 7 with 1 3 by 2 3;"
                + "both 7 with 1 3 down 3 1 2 up 2 3;");
        spelled(x, 0, "small 2;");
        spelled(x, 1, "pratt 7 base 3 by 2 1 3 1;");
        spelled(x, 2, "part 7 by 3 1 2;");
        spelled(x, 3, "lucas 7 with 1 3 by 2 3;");
        spelled(x, 4, "both 7 with 1 3 down 3 1 2 up 2 3;");
    }

    @Says(promise = 23, words = "(a of PRATT the first ROW's BASE)")
    static void theFirstRowsBase() {
        PrimeProofs x = with(ALL);
        due(x.alter(PRATT, false, 1, 2, 5), 3, "alter");
        spelled(x, PRATT, "pratt 7 base 3 by 2 1 3 1;");
        due(x.alter(PRATT, false, 0, 2, 999), 3, "alter");
        spelled(x, PRATT, "pratt 7 base 999 by 2 1 3 1;");
        due(x.cut(PRATT, false, 0), 1, "cut");
        spelled(x, PRATT, "pratt 7 base 5 by 3 1;");
    }

    @Says(promise = 23, words = "(a of PRATT 2 without ROWS)")
    static void withoutRowsTheBaseIs2() {
        PrimeProofs x = with("pratt 7 base 999 by;pratt 7 base 3 by 2 1;");
        spelled(x, 0, "pratt 7 base 2 by;");
        due(x.cut(1, false, 0), 0, "cut");
        spelled(x, 1, "pratt 7 base 2 by;");
    }

    @Says(promise = 23, words = "by, down, up stand without ROWS, too")
    static void wordsStandWithoutRows() {
        PrimeProofs x = with("pratt 7 base 2 by;part 7 by;lucas 7 with 1 3 by;both 7 with 1 3 down up;");
        spelled(x, 0, "pratt 7 base 2 by;");
        spelled(x, 1, "part 7 by;");
        spelled(x, 2, "lucas 7 with 1 3 by;");
        spelled(x, 3, "both 7 with 1 3 down up;");
    }

    @Says(promise = 23, words = "i NONE how many signs: the fewest, the most")
    static void howManySigns() {
        String most = "both 1000000000 with 99 99 down" + " 1000000000 30 999".repeat(9) + " up" + " 1000000000 30".repeat(9) + ";";
        PrimeProofs x = with("small 2;" + most);
        due(x.spell(0, NONE), 8, "spell(0, -1)");
        due(x.spell(1, NONE), most.length(), "spell(1, -1)");
        due(x.spell(1, most.length() - 1), ';', "the last of the most");
        due(x.spell(1, most.length()), NONE, "behind it");
        spelled(x, 1, most);
    }

    @Says(promise = 23, words = "0 on: the i-th")
    static void theFirstAndTheLastSign() {
        PrimeProofs x = with(ALL);
        due(x.spell(0, 0), 's', "the first");
        due(x.spell(0, 6), '2', "the last but one");
        due(x.spell(0, 7), ';', "the last");
        due(x.spell(WRONG, 6), '9', "of one that is not RIGHT");
    }

    @Says(promise = 23, words = "INTS as they are, up to the greatest")
    static void theGreatestInts() {
        PrimeProofs x = with("small 1000000000;small 999999999;small 10;small 100;");
        spelled(x, 0, "small 1000000000;");
        spelled(x, 1, "small 999999999;");
        spelled(x, 2, "small 10;");
        spelled(x, 3, "small 100;");
    }

    @Says(promise = 23, words = "NONE: no such ones: signs")
    static void noSuchSign() {
        PrimeProofs x = with(ALL);
        for (int i : new int[] {MIN, -3, -2, 8, 9, 400, MAX}) {
            due(x.spell(0, i), NONE, "spell(0, " + i + ")");
        }
        // A longer line was spelled last: its signs are no longer there.
        due(x.spell(BOTH, 33), ';', "spell(5, 33)");
        due(x.spell(0, 33), NONE, "spell(0, 33)");
    }

    @Says(promise = 23, words = "NONE: no such ones: LINES")
    static void spellOfNoLine() {
        PrimeProofs x = with(ALL);
        for (int line : NO_LINES) {
            due(x.spell(line, NONE), NONE, "spell(" + line + ", -1)");
            due(x.spell(line, 0), NONE, "spell(" + line + ", 0)");
        }
        due(new PrimeProofs().spell(0, NONE), NONE, "spell of a new object");
    }

    // ---- 24 proof

    @Says(promise = 24, words = "The least RIGHT LINE for n")
    static void theLeastForN() {
        PrimeProofs x = with("part 7 by;small 3;part 7 by 3 1 2;small 7;");
        due(x.proof(7), 2, "proof(7)");
        due(x.proof(3), 1, "proof(3)");
        due(full().proof(2), 0, "proof(2) of 60");
        due(full().proof(7), 59, "proof(7) of 60");
    }

    @Says(promise = 24, words = "-2: none")
    static void noneForN() {
        PrimeProofs x = with("part 7 by;small 9;");
        due(x.proof(7), NOT, "one that is not RIGHT");
        due(x.proof(9), NOT, "one that is not RIGHT");
        due(x.proof(LEAST), NOT, "the least NUMBER");
        due(x.proof(MOST), NOT, "the greatest NUMBER");
        due(new PrimeProofs().proof(2), NOT, "a new object");
    }

    @Says(promise = 24, words = "NONE: no NUMBER")
    static void proofOfNoNumber() {
        PrimeProofs x = with(ALL);
        for (int n : NO_NUMBERS) {
            due(x.proof(n), NONE, "proof(" + n + ")");
        }
    }
}
