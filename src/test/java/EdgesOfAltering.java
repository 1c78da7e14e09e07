/** Each sentence of promises 6 to 13 that names an edge: lines altered by hand, moved, mended, gone. */
final class EdgesOfAltering extends Tests {
    private static final String ALL = "small 2;small 3;pratt 7 base 3 by 2 1 3 1;part 7 by 3 1 2;lucas 7 with 1 3 by 2 3;"
            + "both 7 with 1 3 down 3 1 2 up 2 3;";
    private static final int SMALL = 0;
    private static final int PRATT = 2;
    private static final int PART = 3;
    private static final int LUCAS = 4;
    private static final int BOTH = 5;
    private static final int SIZE = 6;
    private static final int[] NO_LINES = {MIN, -2, -1, SIZE, SIZE + 1, 59, 60, 64, MAX};

    // ---- 6 set

    @Says(promise = 6, words = "what 0 n is another one: what it was")
    static void anotherN() {
        for (int line = 0; line < SIZE; line++) {
            PrimeProofs x = with(ALL);
            int was = x.line(line, 0);
            due(x.set(line, 0, LEAST), was, "the least NUMBER");
            due(x.set(line, 0, MOST), LEAST, "the greatest NUMBER");
            due(x.line(line, 0), MOST, "n");
            due(x.line(line, 6) == 0 ? 0 : 1, 1, "a FAULT");
            due(x.set(line, 0, was), MOST, "as it was");
            due(x.line(line, 6), 0, "no FAULT");
        }
    }

    @Says(promise = 6, words = "what 0 n: no NUMBER")
    static void noSuchN() {
        PrimeProofs x = with(ALL);
        for (int n : NO_NUMBERS) {
            nothing(x, () -> x.set(BOTH, 0, n), NONE, "set(5, 0, " + n + ")");
        }
    }

    @Says(promise = 6, words = "what 1 P (1 .. 99) is another one: what it was")
    static void anotherP() {
        PrimeProofs x = with(ALL);
        for (int line : new int[] {LUCAS, BOTH}) {
            due(x.set(line, 1, 99), 1, "P");
            due(x.line(line, 2), 99, "P");
            due(x.line(line, 3), 3, "Q");
            due(x.set(line, 1, 1), 99, "P");
            due(x.line(line, 2), 1, "P");
            for (int p : new int[] {MIN, -1, 0, 100, 101, MAX}) {
                nothing(x, () -> x.set(line, 1, p), NONE, "set(" + line + ", 1, " + p + ")");
            }
        }
    }

    @Says(promise = 6, words = "what 2 Q (1 .. 99) is another one: what it was")
    static void anotherQ() {
        PrimeProofs x = with(ALL);
        for (int line : new int[] {LUCAS, BOTH}) {
            due(x.set(line, 2, 99), 3, "Q");
            due(x.line(line, 3), 99, "Q");
            due(x.line(line, 2), 1, "P");
            due(x.set(line, 2, 1), 99, "Q");
            due(x.line(line, 3), 1, "Q");
            for (int q : new int[] {MIN, -1, 0, 100, 101, MAX}) {
                nothing(x, () -> x.set(line, 2, q), NONE, "set(" + line + ", 2, " + q + ")");
            }
        }
    }

    @Says(promise = 6, words = "NONE, and nothing happens: (P, Q of SORTS that have none)")
    static void sortsWithoutPQ() {
        PrimeProofs x = with(ALL);
        for (int line : new int[] {SMALL, PRATT, PART}) {
            nothing(x, () -> x.set(line, 1, 5), NONE, "P of line " + line);
            nothing(x, () -> x.set(line, 2, 5), NONE, "Q of line " + line);
        }
    }

    @Says(promise = 6, words = "NONE, and nothing happens: no such ones: LINES")
    static void setOfNoLine() {
        PrimeProofs x = with(ALL);
        for (int line : NO_LINES) {
            nothing(x, () -> x.set(line, 0, 5), NONE, "set(" + line + ", 0, 5)");
        }
        due(new PrimeProofs().set(0, 0, 5), NONE, "set of a new object");
    }

    @Says(promise = 6, words = "NONE, and nothing happens: no such ones: what")
    static void setOfNoWhat() {
        PrimeProofs x = with(ALL);
        for (int what : new int[] {MIN, -1, 3, 4, 6, MAX}) {
            nothing(x, () -> x.set(BOTH, what, 5), NONE, "set(5, " + what + ", 5)");
        }
    }

    @Says(promise = 6, words = "is another one: what it was, alike, too")
    static void setAlike() {
        PrimeProofs x = with(ALL);
        nothing(x, () -> x.set(LUCAS, 0, 7), 7, "n");
        nothing(x, () -> x.set(LUCAS, 1, 1), 1, "P");
        nothing(x, () -> x.set(LUCAS, 2, 3), 3, "Q");
    }

    @Says(promise = 6, words = "what rested on it is not RIGHT then")
    static void whatRestedOnItFalls() {
        PrimeProofs x = with("small 2;small 3;part 7 by 3 1 2;part 29 by 7 1 2;");
        due(x.set(1, 0, 5), 3, "set");
        due(x.right(), 3, "RIGHT ones");
        due(x.line(2, 6), 2, "FAULT of line 2");
        due(x.line(3, 6), 2, "FAULT of line 3");
        due(x.set(1, 0, 3), 5, "set");
        due(x.right(), 15, "RIGHT ones");
    }

    // ---- 7 alter

    @Says(promise = 7, words = "what 0 q is another one: what it was")
    static void anotherDivisor() {
        PrimeProofs x = with(ALL);
        due(x.alter(PRATT, false, 1, 0, MOST), 3, "the greatest q");
        due(x.row(PRATT, false, 1, 0), MOST, "q");
        due(x.row(PRATT, false, 0, 0), 2, "q of the ROW ahead");
        due(x.alter(PRATT, false, 1, 0, LEAST), MOST, "the least q");
        due(x.row(PRATT, false, 1, 0), LEAST, "q");
        due(x.alter(BOTH, true, 0, 0, MOST), 2, "q above");
        due(x.row(BOTH, true, 0, 0), MOST, "q above");
        due(x.row(BOTH, false, 0, 0), 3, "q below");
        for (int q : NO_NUMBERS) {
            nothing(x, () -> x.alter(BOTH, false, 0, 0, q), NONE, "q " + q);
            nothing(x, () -> x.alter(BOTH, true, 0, 0, q), NONE, "q above " + q);
        }
    }

    @Says(promise = 7, words = "what 1 EXPONENT (1 .. 30) is another one: what it was")
    static void anotherExponent() {
        PrimeProofs x = with(ALL);
        due(x.alter(PART, false, 0, 1, 30), 1, "the greatest EXPONENT");
        due(x.row(PART, false, 0, 1), 30, "EXPONENT");
        due(x.alter(PART, false, 0, 1, 1), 30, "the least EXPONENT");
        due(x.row(PART, false, 0, 1), 1, "EXPONENT");
        due(x.alter(LUCAS, true, 0, 1, 30), 3, "the greatest EXPONENT above");
        due(x.alter(LUCAS, true, 0, 1, 1), 30, "the least EXPONENT above");
        for (int e : new int[] {MIN, -1, 0, 31, 32, MAX}) {
            nothing(x, () -> x.alter(PART, false, 0, 1, e), NONE, "EXPONENT " + e);
            nothing(x, () -> x.alter(LUCAS, true, 0, 1, e), NONE, "EXPONENT above " + e);
        }
    }

    @Says(promise = 7, words = "what 2 BASE (2 .. 999) is another one: what it was")
    static void anotherBase() {
        PrimeProofs x = with(ALL);
        for (int line : new int[] {PART, BOTH}) {
            due(x.alter(line, false, 0, 2, 999), 2, "the greatest BASE");
            due(x.row(line, false, 0, 2), 999, "BASE");
            due(x.alter(line, false, 0, 2, 2), 999, "the least BASE");
            due(x.row(line, false, 0, 2), 2, "BASE");
            for (int a : new int[] {MIN, -1, 0, 1, 1000, 1001, MAX}) {
                nothing(x, () -> x.alter(line, false, 0, 2, a), NONE, "BASE " + a);
            }
        }
    }

    @Says(promise = 7, words = "what 2 BASE (of PRATT, of one ROW alone)")
    static void anotherBaseOfOneRow() {
        PrimeProofs x = with(ALL);
        due(x.alter(PRATT, false, 1, 2, 2), 3, "BASE of the second ROW");
        due(x.row(PRATT, false, 0, 2), 3, "BASE of the first ROW");
        due(x.row(PRATT, false, 1, 2), 2, "BASE of the second ROW");
        due(x.line(PRATT, 6), 0, "3 to the 3 and 2 to the 2 will do");
        due(x.alter(PRATT, false, 0, 2, 2), 3, "BASE of the first ROW");
        due(x.line(PRATT, 6), 6, "2 to the 3 will not");
    }

    @Says(promise = 7, words = "NONE, and nothing happens: 2 BASE (of DOWN ones)")
    static void noBaseOfUpRows() {
        PrimeProofs x = with(ALL);
        nothing(x, () -> x.alter(LUCAS, true, 0, 2, 5), NONE, "BASE of LUCAS");
        nothing(x, () -> x.alter(BOTH, true, 0, 2, 5), NONE, "BASE above of BOTH");
    }

    @Says(promise = 7, words = "NONE, and nothing happens: no such ones: LINES")
    static void alterOfNoLine() {
        PrimeProofs x = with(ALL);
        for (int line : NO_LINES) {
            nothing(x, () -> x.alter(line, false, 0, 1, 2), NONE, "alter of line " + line);
        }
        due(new PrimeProofs().alter(0, false, 0, 1, 2), NONE, "alter of a new object");
    }

    @Says(promise = 7, words = "NONE, and nothing happens: no such ones: ROWS")
    static void alterOfNoRow() {
        PrimeProofs x = with(ALL);
        // 1431655766 times 3 is 2 by 2 to the 32.
        for (int i : new int[] {MIN, -1, 2, 3, 8, 9, 1_431_655_766, MAX}) {
            nothing(x, () -> x.alter(PRATT, false, i, 1, 2), NONE, "ROW " + i);
        }
        nothing(x, () -> x.alter(BOTH, false, 1, 1, 2), NONE, "DOWN ROW 1");
        nothing(x, () -> x.alter(BOTH, true, 1, 1, 2), NONE, "UP ROW 1");
        nothing(x, () -> x.alter(BOTH, true, -1, 1, 2), NONE, "UP ROW -1");
    }

    @Says(promise = 7, words = "NONE, and nothing happens: no such ones: the other side")
    static void alterOfNoSide() {
        PrimeProofs x = with(ALL);
        nothing(x, () -> x.alter(SMALL, false, 0, 1, 2), NONE, "SMALL, below");
        nothing(x, () -> x.alter(SMALL, true, 0, 1, 2), NONE, "SMALL, above");
        nothing(x, () -> x.alter(PRATT, true, 0, 1, 2), NONE, "PRATT, above");
        nothing(x, () -> x.alter(PART, true, 0, 1, 2), NONE, "PART, above");
        nothing(x, () -> x.alter(LUCAS, false, 0, 1, 2), NONE, "LUCAS, below");
    }

    @Says(promise = 7, words = "NONE, and nothing happens: no such ones: what")
    static void alterOfNoWhat() {
        PrimeProofs x = with(ALL);
        for (int what : new int[] {MIN, -1, 3, 4, MAX}) {
            nothing(x, () -> x.alter(BOTH, false, 0, what, 5), NONE, "what " + what);
            nothing(x, () -> x.alter(BOTH, true, 0, what, 5), NONE, "what above " + what);
        }
    }

    // ---- 8 cut

    @Says(promise = 8, words = "A ROW goes: how many of that side are left: none")
    static void theOnlyRowGoes() {
        PrimeProofs x = with(ALL);
        due(x.cut(BOTH, false, 0), 0, "cut below");
        due(x.line(BOTH, 5), 1, "the other side");
        due(x.cut(BOTH, true, 0), 0, "cut above");
        spelled(x, BOTH, "both 7 with 1 3 down up;");
        due(x.line(BOTH, 6), 4, "its FAULT");
    }

    @Says(promise = 8, words = "A ROW goes: the first, one between, the last of nine")
    static void oneOfNineGoes() {
        String nine = "lucas 7 with 1 1 by 2 1 3 2 5 3 7 4 11 5 13 6 17 7 19 8 23 9;";
        PrimeProofs x = with(nine);
        due(x.cut(0, true, 8), 8, "the last");
        spelled(x, 0, "lucas 7 with 1 1 by 2 1 3 2 5 3 7 4 11 5 13 6 17 7 19 8;");
        due(x.cut(0, true, 0), 7, "the first");
        spelled(x, 0, "lucas 7 with 1 1 by 3 2 5 3 7 4 11 5 13 6 17 7 19 8;");
        due(x.cut(0, true, 3), 6, "one between");
        spelled(x, 0, "lucas 7 with 1 1 by 3 2 5 3 7 4 13 6 17 7 19 8;");
        nothing(x, () -> x.cut(0, true, 6), NONE, "behind the last");
    }

    @Says(promise = 8, words = "NONE: no such one: ROWS")
    static void cutOfNoRow() {
        PrimeProofs x = with(ALL);
        for (int i : new int[] {MIN, -1, 2, 3, 9, 1_431_655_766, MAX}) {
            nothing(x, () -> x.cut(PRATT, false, i), NONE, "ROW " + i);
        }
        nothing(x, () -> x.cut(BOTH, true, 1), NONE, "UP ROW 1");
        due(x.cut(PART, false, 0), 0, "cut");
        nothing(x, () -> x.cut(PART, false, 0), NONE, "none is left");
    }

    @Says(promise = 8, words = "NONE: no such one: the other side")
    static void cutOfNoSide() {
        PrimeProofs x = with(ALL);
        nothing(x, () -> x.cut(SMALL, false, 0), NONE, "SMALL, below");
        nothing(x, () -> x.cut(SMALL, true, 0), NONE, "SMALL, above");
        nothing(x, () -> x.cut(PRATT, true, 0), NONE, "PRATT, above");
        nothing(x, () -> x.cut(LUCAS, false, 0), NONE, "LUCAS, below");
    }

    @Says(promise = 8, words = "NONE: no such one: LINES")
    static void cutOfNoLine() {
        PrimeProofs x = with(ALL);
        for (int line : NO_LINES) {
            nothing(x, () -> x.cut(line, false, 0), NONE, "cut of line " + line);
        }
        due(new PrimeProofs().cut(0, false, 0), NONE, "cut of a new object");
    }

    // ---- 9 move

    @Says(promise = 9, words = "A LINE comes to another place (those between move on by one): from the first to the last")
    static void fromTheFirstToTheLast() {
        PrimeProofs x = with("small 2;small 3;small 5;small 7;");
        due(x.move(0, 3), 1, "move");
        int[] order = {3, 5, 7, 2};
        for (int line = 0; line < 4; line++) {
            due(x.line(line, 0), order[line], "line " + line);
        }
        due(x.count(0), 4, "lines");
    }

    @Says(promise = 9, words = "A LINE comes to another place (those between move on by one): from the last to the first")
    static void fromTheLastToTheFirst() {
        PrimeProofs x = with("small 2;small 3;small 5;small 7;");
        due(x.move(3, 0), 1, "move");
        int[] order = {7, 2, 3, 5};
        for (int line = 0; line < 4; line++) {
            due(x.line(line, 0), order[line], "line " + line);
        }
    }

    @Says(promise = 9, words = "those between move on by one (no others): neighbours")
    static void neighboursChangePlaces() {
        PrimeProofs x = with("small 2;small 3;small 5;small 7;");
        due(x.move(1, 2), 1, "on");
        due(x.line(1, 0), 5, "line 1");
        due(x.line(2, 0), 3, "line 2");
        due(x.move(2, 1), 1, "back");
        due(x.line(0, 0), 2, "line 0");
        due(x.line(1, 0), 3, "line 1");
        due(x.line(2, 0), 5, "line 2");
        due(x.line(3, 0), 7, "line 3");
    }

    @Says(promise = 9, words = "from the first to the last of 60")
    static void amongSixtyLines() {
        PrimeProofs x = withTwos(59);
        due(x.find(3, 1), 59, "find");
        due(x.move(59, 0), 0, "not RIGHT ahead of all");
        due(x.right(), (1L << 60) - 2, "RIGHT ones");
        due(x.move(0, 59), 1, "RIGHT behind all");
        due(x.right(), (1L << 60) - 1, "RIGHT ones");
        due(x.move(59, 60), NONE, "no such place");
        due(x.move(60, 59), NONE, "no such line");
    }

    @Says(promise = 9, words = "whether it is RIGHT there (1, 0)")
    static void whetherItIsRightThere() {
        PrimeProofs x = with("small 3;small 5;part 7 by 3 1 2;small 9;");
        due(x.move(2, 1), 1, "behind its 3");
        due(x.move(1, 0), 0, "ahead of its 3");
        due(x.line(0, 6), 2, "its FAULT");
        due(x.move(0, 2), 1, "behind its 3 again");
        due(x.move(3, 0), 0, "9 is nowhere RIGHT");
    }

    @Says(promise = 9, words = "NONE, and nothing happens: no such ones")
    static void moveOfNoLines() {
        PrimeProofs x = with(ALL);
        for (int line : NO_LINES) {
            nothing(x, () -> x.move(line, 0), NONE, "move(" + line + ", 0)");
            nothing(x, () -> x.move(0, line), NONE, "move(0, " + line + ")");
            nothing(x, () -> x.move(line, line), NONE, "move(" + line + ", " + line + ")");
        }
        due(new PrimeProofs().move(0, 0), NONE, "move of a new object");
    }

    @Says(promise = 9, words = "NONE, and nothing happens: alike")
    static void moveToItsOwnPlace() {
        PrimeProofs x = with(ALL);
        for (int line = 0; line < SIZE; line++) {
            int same = line;
            nothing(x, () -> x.move(same, same), NONE, "move(" + same + ", " + same + ")");
        }
    }

    // ---- 10 mend

    @Says(promise = 10, words = "gets the ROWS, P, Q of one FOUND for its n in place of its own: its FAULT then: none")
    static void mended() {
        PrimeProofs x = with("small 2;small 3;pratt 7 base 999 by 5 30;part 7 by 2 1 7;lucas 7 with 99 99 by;"
                + "both 7 with 99 99 down 2 1 7 up 3 3 5 1;small 7;");
        for (int line = 2; line <= 6; line++) {
            due(x.mend(line), 0, "mend(" + line + ")");
        }
        spelled(x, 2, "pratt 7 base 3 by 2 1 3 1;");
        spelled(x, 3, "part 7 by 3 1 2;");
        spelled(x, 4, "lucas 7 with 1 3 by 2 3;");
        spelled(x, 5, "both 7 with 1 3 down 3 1 2 up;");
        spelled(x, 6, "small 7;");
        due(x.right(), 127, "RIGHT ones");
    }

    @Says(promise = 10, words = "its FAULT then: none, and what names it is RIGHT then, too")
    static void whatNamesItIsRightThen() {
        PrimeProofs x = with("small 3;part 7 by 3 1 7;part 29 by 7 1 2;");
        due(x.right(), 1, "RIGHT ones");
        due(x.mend(1), 0, "mend");
        due(x.right(), 7, "RIGHT ones");
        due(x.rests(2), 7, "rests");
    }

    @Says(promise = 10, words = "(nothing comes ahead of it): its FAULT then: 2")
    static void nothingComesAheadOfIt() {
        PrimeProofs x = with("part 7 by;");
        due(x.mend(0), 2, "mend");
        due(x.count(0), 1, "lines");
        spelled(x, 0, "part 7 by 3 1 2;");
    }

    @Says(promise = 10, words = "(nothing comes ahead of it): in a full ledger, too")
    static void mendedInAFullLedger() {
        PrimeProofs x = withTwos(59);
        due(read(x, "part 1009 by;"), 1, "read");
        due(x.mend(59), 2, "mend");
        due(x.count(0), 60, "lines");
        spelled(x, 59, "part 1009 by 7 1 2 3 2 2;");
    }

    @Says(promise = 10, words = "-2, and nothing happens: none is FOUND: n is no prime")
    static void noneIsFoundForIt() {
        PrimeProofs x = with("small 9;pratt 9 base 2 by;part 15 by 2 1 2;lucas 21 with 1 1 by;both 999999999 with 1 1 down up;");
        for (int line = 0; line < 5; line++) {
            int l = line;
            nothing(x, () -> x.mend(l), NOT, "mend(" + l + ")");
        }
    }

    @Says(promise = 10, words = "-2, and nothing happens: none is FOUND: 2 but as SMALL")
    static void twoIsNotMended() {
        PrimeProofs x = with("small 2;pratt 2 base 3 by;part 2 by 2 1 2;lucas 2 with 1 1 by;both 2 with 1 1 down up;");
        due(x.mend(0), 0, "SMALL");
        for (int line = 1; line < 5; line++) {
            int l = line;
            nothing(x, () -> x.mend(l), NOT, "mend(" + l + ")");
        }
    }

    @Says(promise = 10, words = "-2, and nothing happens: none is FOUND: SMALL of 100 and more")
    static void smallOf100IsNotMended() {
        PrimeProofs x = with("small 101;small 100;small 97;");
        nothing(x, () -> x.mend(0), NOT, "mend(0)");
        nothing(x, () -> x.mend(1), NOT, "mend(1)");
        nothing(x, () -> x.mend(2), 0, "mend(2)");
    }

    @Says(promise = 10, words = "NONE: no such one")
    static void mendOfNoLine() {
        PrimeProofs x = with(ALL);
        for (int line : NO_LINES) {
            nothing(x, () -> x.mend(line), NONE, "mend(" + line + ")");
        }
        due(new PrimeProofs().mend(0), NONE, "mend of a new object");
    }

    // ---- 11 prune

    @Says(promise = 11, words = "All LINES but one and those it RESTS on go, these stay in their order: how many are left")
    static void theseStayInTheirOrder() {
        PrimeProofs x = with("small 4;small 3;small 5;small 2;small 3;part 7 by 3 1 2;part 29 by 7 1 2;small 2;");
        due(x.prune(6), 3, "prune");
        spelled(x, 0, "small 3;");
        spelled(x, 1, "part 7 by 3 1 2;");
        spelled(x, 2, "part 29 by 7 1 2;");
        due(x.right(), 7, "RIGHT ones");
        due(x.rests(2), 7, "rests");
    }

    @Says(promise = 11, words = "these stay, whatever comes behind them then")
    static void linesComeBehindThoseThatStay() {
        PrimeProofs x = with("small 4;small 5;small 3;small 6;part 7 by 3 1 2;small 8;");
        due(x.prune(4), 2, "prune");
        due(read(x, "small 11;small 13;small 17;small 19;"), 4, "read");
        int[] order = {3, 7, 11, 13, 17, 19};
        for (int line = 0; line < order.length; line++) {
            due(x.line(line, 0), order[line], "line " + line);
        }
        spelled(x, 1, "part 7 by 3 1 2;");
        due(x.right(), 63, "RIGHT ones");
    }

    @Says(promise = 11, words = "how many are left: it alone")
    static void itAloneIsLeft() {
        PrimeProofs x = with(ALL);
        due(x.prune(SMALL), 1, "prune");
        spelled(x, 0, "small 2;");
        due(x.right(), 1, "RIGHT ones");
        due(x.prune(0), 1, "prune again");
        due(x.find(3, 1), 1, "one comes behind it");
    }

    @Says(promise = 11, words = "how many are left: all")
    static void allAreLeft() {
        PrimeProofs x = new PrimeProofs();
        due(x.find(1439, 1), 5, "find");
        nothing(x, () -> x.prune(5), 6, "prune");
    }

    @Says(promise = 11, words = "All LINES but one go: of 60")
    static void oneOfSixtyIsLeft() {
        PrimeProofs x = withTwos(58);
        due(x.find(7, 2), 59, "find");
        due(x.prune(59), 2, "prune");
        spelled(x, 0, "small 3;");
        spelled(x, 1, "part 7 by 3 1 2;");
        due(x.right(), 3, "RIGHT ones");
    }

    @Says(promise = 11, words = "-2, and nothing happens: it is not RIGHT")
    static void whatIsNotRightIsNotPruned() {
        PrimeProofs x = with("small 2;small 4;part 7 by 3 1 2;");
        nothing(x, () -> x.prune(1), NOT, "prune(1)");
        nothing(x, () -> x.prune(2), NOT, "prune(2)");
    }

    @Says(promise = 11, words = "NONE: no such one")
    static void pruneOfNoLine() {
        PrimeProofs x = with(ALL);
        for (int line : NO_LINES) {
            nothing(x, () -> x.prune(line), NONE, "prune(" + line + ")");
        }
        due(new PrimeProofs().prune(0), NONE, "prune of a new object");
    }

    // ---- 12 drop

    @Says(promise = 12, words = "The last LINE goes: how many are left")
    static void theLastLineGoes() {
        PrimeProofs x = with("small 2;small 3;small 5;");
        due(x.drop(), 2, "drop");
        due(x.line(1, 0), 3, "the last one");
        due(x.right(), 3, "RIGHT ones");
        due(x.proof(5), NOT, "proof(5)");
        due(x.drop(), 1, "drop");
        due(x.drop(), 0, "the only one");
        due(x.right(), 0, "RIGHT ones");
    }

    @Says(promise = 12, words = "The last LINE goes: of 60")
    static void theSixtiethGoes() {
        PrimeProofs x = withTwos(60);
        due(x.drop(), 59, "drop");
        due(x.right(), (1L << 59) - 1, "RIGHT ones");
        due(x.find(3, 0), 59, "there is room again");
        due(x.right(), (1L << 60) - 1, "RIGHT ones");
    }

    @Says(promise = 12, words = "NONE: there is none")
    static void nothingToDrop() {
        PrimeProofs x = new PrimeProofs();
        nothing(x, () -> x.drop(), NONE, "drop of a new object");
        due(x.find(2, 0), 0, "find");
        due(x.drop(), 0, "drop");
        nothing(x, () -> x.drop(), NONE, "drop again");
    }

    // ---- 13 clear

    @Says(promise = 13, words = "All LINES go: how many there were")
    static void allLinesGo() {
        PrimeProofs x = with(ALL);
        due(x.clear(), SIZE, "clear");
        alike(state(x), state(new PrimeProofs()), "the state behind clear");
        due(x.find(3, 1), 1, "lines are numbered from 0 on again");
    }

    @Says(promise = 13, words = "how many there were: none")
    static void nothingToClear() {
        PrimeProofs x = new PrimeProofs();
        due(x.clear(), 0, "clear of a new object");
        due(x.find(2, 0), 0, "find");
        due(x.clear(), 1, "clear");
        due(x.clear(), 0, "clear again");
    }

    @Says(promise = 13, words = "how many there were: 60")
    static void sixtyToClear() {
        PrimeProofs x = withTwos(60);
        due(x.clear(), 60, "clear");
        due(x.right(), 0, "RIGHT ones");
        due(read(x, "small 3;".repeat(50)), 50, "read");
        due(x.right(), (1L << 50) - 1, "RIGHT ones");
    }

    @Says(promise = 13, words = "All LINES go (the tape stays)")
    static void theTapeStays() {
        PrimeProofs x = with(ALL);
        feed(x, "small 7;");
        due(x.clear(), SIZE, "clear");
        due(x.count(3), 8, "the tape");
        due(x.read(), 1, "read");
    }
}
