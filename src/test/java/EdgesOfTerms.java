/** Each sentence of the Terms that names an edge: of numbers, of faults, of what is found, of texts. */
final class EdgesOfTerms extends Tests {
    private static final String TO13 = "small 2;small 3;small 5;small 7;small 11;small 13;";

    // ---- lines and their parts

    @Says(promise = 0, words = "LINES, 60 at most")
    static void sixtyLinesAndNoMore() {
        PrimeProofs x = withTwos(59);
        due(x.find(3, 0), 59, "the 60th line");
        nothing(x, () -> x.find(5, 0), FULL, "find of a 61st line");
        feed(x, "small 5;");
        due(x.read(), FULL, "read of a 61st line");
        due(x.count(0), 60, "lines");
    }

    @Says(promise = 0, words = "LINES, numbered from 0 on as they come")
    static void linesAreNumberedFrom0() {
        PrimeProofs x = new PrimeProofs();
        due(x.find(5, 0), 0, "the first one found");
        due(read(x, "small 7;"), 1, "read");
        due(x.line(1, 0), 7, "the second one, told");
        due(x.find(3, 0), 2, "the third one found");
        due(x.line(0, 0), 5, "the first one");
    }

    @Says(promise = 0, words = "SORTS 1, 2, 4 have DOWN ROWS")
    static void downRowsOfSorts() {
        PrimeProofs x = with("small 2;pratt 7 base 3 by 2 1;part 7 by 2 1 3;lucas 7 with 1 3 by 2 1;both 7 with 1 3 down 2 1 3 up 2 1;");
        int[] downs = {0, 1, 1, 0, 1};
        for (int line = 0; line < 5; line++) {
            due(x.line(line, 4), downs[line], "DOWN ROWS of SORT " + line);
            due(x.row(line, false, 0, 0), downs[line] == 1 ? 2 : NONE, "the first DOWN ROW of SORT " + line);
        }
    }

    @Says(promise = 0, words = "SORTS 3, 4 [have] UP ROWS")
    static void upRowsOfSorts() {
        PrimeProofs x = with("small 2;pratt 7 base 3 by 2 1;part 7 by 2 1 3;lucas 7 with 1 3 by 2 1;both 7 with 1 3 down 2 1 3 up 2 1;");
        int[] ups = {0, 0, 0, 1, 1};
        for (int line = 0; line < 5; line++) {
            due(x.line(line, 5), ups[line], "UP ROWS of SORT " + line);
            due(x.row(line, true, 0, 0), ups[line] == 1 ? 2 : NONE, "the first UP ROW of SORT " + line);
        }
    }

    @Says(promise = 0, words = "9 at most of each")
    static void nineRowsOfEachSide() {
        PrimeProofs x = with("both 7 with 1 1 down" + " 2 1 2".repeat(9) + " up" + " 3 1".repeat(9) + ";");
        due(x.line(0, 4), 9, "DOWN ROWS");
        due(x.line(0, 5), 9, "UP ROWS");
        due(x.row(0, false, 8, 0), 2, "the ninth DOWN ROW");
        due(x.row(0, true, 8, 0), 3, "the ninth UP ROW");
        due(x.row(0, false, 9, 0), NONE, "a tenth DOWN ROW");
        due(x.row(0, true, 9, 0), NONE, "a tenth UP ROW");
    }

    @Says(promise = 0, words = "F is the product of all q to the EXPONENT (1 without)")
    static void withoutRowsTheProductIs1() {
        faultOf("pratt 7 base 3 by;", 3);
        faultOf("part 7 by;", 4);
        faultOf("part 999999999 by;", 4);
        faultOf("small 2;both 7 with 1 3 down up 2 3;", 0);
    }

    @Says(promise = 0, words = "G that of UP ROWS (1 without)")
    static void withoutUpRowsTheProductIs1() {
        faultOf("lucas 7 with 1 3 by;", 3);
        faultOf("both 7 with 1 3 down up;", 4);
        faultOf("small 3;both 7 with 1 3 down 3 1 2 up;", 0);
    }

    // 2 times 9 times 5 to the 12 is 4394531250, of which 99563954 is left by 2 to the 32.
    @Says(promise = 0, words = "F (as told, however great), beyond 32 binary digits")
    static void downProductDoesNotWrapAt32() {
        faultOf(TO13 + "pratt 99563955 base 2 by 2 1 3 2 5 12;", 3);
        faultOf(TO13 + "part 99563955 by 2 1 2 3 2 2 5 12 2;", 3);
        faultOf(TO13 + "both 99563955 with 1 1 down 2 1 2 3 2 2 5 12 2 up;", 3);
    }

    @Says(promise = 0, words = "G (as told, however great), beyond 32 binary digits")
    static void upProductDoesNotWrapAt32() {
        faultOf(TO13 + "lucas 99563953 with 1 1 by 2 1 3 2 5 12;", 3);
        faultOf(TO13 + "both 99563953 with 1 1 down up 2 1 3 2 5 12;", 3);
    }

    // By 2 to the 64 2 to the 29 is left of this product.
    @Says(promise = 0, words = "F (as told, however great), beyond 64 binary digits")
    static void downProductDoesNotWrapAt64() {
        String ahead = TO13 + "small 17;small 19;";
        faultOf(ahead + "pratt 536870913 base 2 by 2 29 3 22 5 27 7 15 11 14 13 12 17 1 19 1;", 3);
        faultOf(ahead + "part 536870913 by 2 29 2 3 22 2 5 27 2 7 15 2 11 14 2 13 12 2 17 1 2 19 1 2;", 3);
        faultOf(ahead + "both 536870913 with 1 1 down 2 29 2 3 22 2 5 27 2 7 15 2 11 14 2 13 12 2 17 1 2 19 1 2 up;", 3);
    }

    @Says(promise = 0, words = "G (as told, however great), beyond 64 binary digits")
    static void upProductDoesNotWrapAt64() {
        String ahead = TO13 + "small 17;small 19;";
        faultOf(ahead + "lucas 536870911 with 1 1 by 2 29 3 22 5 27 7 15 11 14 13 12 17 1 19 1;", 3);
        faultOf(ahead + "both 536870911 with 1 1 down up 2 29 3 22 5 27 7 15 11 14 13 12 17 1 19 1;", 3);
    }

    @Says(promise = 0, words = "F (as told, however great), the greatest there is")
    static void theGreatestProducts() {
        String ahead = "small 47;small 53;small 59;small 61;small 67;small 71;small 73;small 79;small 97;";
        String rows = " 47 30 53 30 59 30 61 30 67 30 71 30 73 30 79 30 97 30";
        faultOf(ahead + "pratt 999999999 base 2 by" + rows + ";", 3);
        faultOf(ahead + "lucas 999999999 with 1 1 by" + rows + ";", 3);
        faultOf(ahead + "both 999999999 with 1 1 down up" + rows + ";", 3);
        faultOf(ahead + "part 999999999 by" + rows.replace(" 30", " 30 2") + ";", 3);
    }

    // ---- numbers

    @Says(promise = 0, words = "U(0) is 0, U(1) 1")
    static void theSequenceBegins() {
        PrimeProofs x = new PrimeProofs();
        due(x.u(99, 99, 0, 1000), 0, "U(0)");
        due(x.u(99, 99, 1, 1000), 1, "U(1)");
        due(x.u(99, 98, 2, 1000), 99, "U(2)");
        due(x.u(1, 99, 3, 1000), 902, "U(3), 98 below 0");
    }

    @Says(promise = 0, words = "COMMON of 0 and b: b, ahead of FAULT 6")
    static void commonOf0IsTheOther() {
        // 6 to the 2 leaves 1 by 7, so the less one is 0.
        faultOf("small 3;part 7 by 3 1 6;", 6);
        faultOf("small 2;part 5 by 2 2 4;", 6);
    }

    @Says(promise = 0, words = "COMMON of 0 and b: b, ahead of FAULT 9")
    static void commonOf0IsTheOtherAbove() {
        // U(4) by P 7, Q 1 is 329, a multiple of 7.
        faultOf("small 2;lucas 7 with 7 1 by 2 3;", 9);
    }

    // ---- faults

    @Says(promise = 0, words = "FAULTS (0: none; it is RIGHT then)")
    static void noFaultIsRight() {
        PrimeProofs x = with("small 2;small 4;");
        due(x.line(0, 6), 0, "no FAULT");
        due(x.line(1, 6), 1, "a FAULT");
        due(x.right(), 1, "RIGHT ones");
    }

    @Says(promise = 0, words = "1 n is no prime below 100 (of SMALL)")
    static void smallOnesAreBelow100() {
        faultOf("small 2;", 0);
        faultOf("small 97;", 0);
        faultOf("small 99;", 1);
        faultOf("small 100;", 1);
        faultOf("small 101;", 1);
        faultOf("small 999999937;", 1);
        faultOf("small 4;", 1);
    }

    @Says(promise = 0, words = "1 it is even (of others)")
    static void othersAreOdd() {
        faultOf("pratt 2 base 3 by;", 1);
        faultOf("part 2 by;", 1);
        faultOf("lucas 2 with 1 1 by;", 1);
        faultOf("both 2 with 1 1 down up;", 1);
        faultOf("part 1000000000 by;", 1);
        faultOf("small 2;pratt 3 base 2 by 2 1;", 0);
    }

    @Says(promise = 0, words = "2 a q is that of another ROW on its side, too")
    static void qTwiceOnASide() {
        faultOf("small 2;part 17 by 2 3 3 2 1 3;", 2);
        faultOf("small 2;part 17 by 2 3 3;", 0);
        faultOf("small 2;lucas 7 with 1 3 by 2 2 2 1;", 2);
        faultOf("small 2;small 3;part 7 by 3 1 2 2 1 3 3 1 2;", 2);
        faultOf("small 2;both 7 with 1 3 down up 2 2 2 1;", 2);
    }

    @Says(promise = 0, words = "2 a q is that of another ROW on its side (on the other side it may be)")
    static void qOnBothSides() {
        faultOf("small 2;both 7 with 1 3 down 2 1 6 up 2 2;", 0);
    }

    @Says(promise = 0, words = "2 there is no RIGHT LINE ahead for q: none at all")
    static void noLineForQ() {
        faultOf("part 17 by 2 3 3;", 2);
        faultOf("small 3;part 17 by 2 3 3;", 2);
        faultOf("small 2;small 3;both 7 with 1 3 down 3 1 2 up 2 1 5 1;", 2);
    }

    @Says(promise = 0, words = "2 there is no RIGHT LINE ahead for q: it is behind")
    static void theLineForQIsBehind() {
        PrimeProofs x = with("part 17 by 2 3 3;small 2;");
        due(x.line(0, 6), 2, "the FAULT of the first line");
        due(x.line(1, 6), 0, "the FAULT of the second line");
    }

    @Says(promise = 0, words = "2 there is no RIGHT LINE ahead for q: itself is none")
    static void aLineDoesNotRestOnItself() {
        faultOf("part 7 by 7 1 2;", 2);
        faultOf("small 2;lucas 7 with 1 3 by 2 3 7 1;", 2);
    }

    @Says(promise = 0, words = "2 there is no RIGHT LINE ahead for q: it is not RIGHT")
    static void theLineForQIsNotRight() {
        faultOf("part 3 by;part 7 by 3 1 2;", 2);
        faultOf("small 9;part 19 by 9 1 2;", 2);
        faultOf("part 3 by;small 3;part 7 by 3 1 2;", 0);
    }

    @Says(promise = 0, words = "3 F isn't n less 1 (PRATT)")
    static void prattHasAllBelow() {
        faultOf("small 2;small 3;pratt 7 base 3 by 2 1 3 1;", 0);
        faultOf("small 2;small 3;pratt 7 base 3 by 3 1;", 3);
        faultOf("small 2;small 3;pratt 7 base 3 by 2 2 3 1;", 3);
        faultOf("small 2;small 3;pratt 5 base 2 by 2 1 3 1;", 3);
    }

    @Says(promise = 0, words = "3 F does not divide n less 1 (PART, BOTH)")
    static void someOfBelow() {
        faultOf("small 2;part 17 by 2 4 3;", 0);
        faultOf("small 2;part 17 by 2 5 3;", 3);
        faultOf("small 3;part 17 by 3 2 2;", 3);
        faultOf("small 2;both 7 with 1 3 down 2 2 6 up;", 3);
        faultOf("small 2;small 5;both 7 with 1 3 down 5 1 6 up 2 3;", 3);
    }

    @Says(promise = 0, words = "3 G isn't n and 1 (LUCAS)")
    static void lucasHasAllAbove() {
        faultOf("small 2;lucas 7 with 1 3 by 2 3;", 0);
        faultOf("small 2;lucas 7 with 1 3 by 2 2;", 3);
        faultOf("small 2;lucas 7 with 1 3 by 2 4;", 3);
        faultOf("small 2;small 3;lucas 7 with 1 3 by 2 1 3 1;", 3);
    }

    @Says(promise = 0, words = "3 G does not divide n and 1 (BOTH)")
    static void someOfAbove() {
        faultOf("small 2;both 7 with 1 3 down up 2 3;", 0);
        faultOf("small 2;both 7 with 1 3 down up 2 4;", 3);
        faultOf("small 3;both 7 with 1 3 down up 3 1;", 3);
    }

    @Says(promise = 0, words = "4 F times F is no more than n (PART)")
    static void partIsEnough() {
        // 4 times 4 is 17 less 1, 2 times 2 is 3 and 1.
        faultOf("small 2;part 17 by 2 2 3;", 4);
        faultOf("small 2;part 17 by 2 3 3;", 0);
        faultOf("small 2;part 5 by 2 1 2;", 4);
        faultOf("small 2;part 3 by 2 1 2;", 0);
        faultOf("small 3;part 7 by 3 1 2;", 0);
        // 65536 times 65536 is 2 to the 32.
        faultOf("small 2;part 65537 by 2 16 3;", 0);
        faultOf("small 2;part 65537 by 2 9 3;", 0);
        faultOf("small 2;part 65537 by 2 8 3;", 4);
    }

    @Says(promise = 0, words = "4 M times M is no more than n (BOTH)")
    static void bothAreEnough() {
        faultOf("small 2;both 5 with 1 1 down 2 1 2 up;", 4);
        faultOf("small 2;both 5 with 1 1 down 2 2 2 up;", 0);
        faultOf("small 2;both 5 with 1 1 down up 2 1;", 4);
        faultOf("small 2;both 17 with 1 1 down 2 2 3 up 2 1;", 4);
        faultOf("small 2;both 3 with 1 2 down up 2 1;", 0);
    }

    @Says(promise = 0, words = "4 M being the least that F and G both divide (no more than that)")
    static void theLeastThatBothDivide() {
        // 2 and 2: the least is 2, the product 4.
        faultOf("small 2;both 7 with 1 3 down 2 1 6 up 2 1;", 4);
        faultOf("small 2;both 7 with 1 3 down 2 1 6 up 2 2;", 0);
        // 4 and 2, 2 and 4: the least is 4, the product 8.
        faultOf("small 2;both 17 with 1 1 down 2 2 3 up 2 1;", 4);
        faultOf("small 2;both 19 with 1 1 down 2 1 2 up 2 2;", 4);
    }

    // M is about 5 to 10 to the 17; by 2 to the 32, and its square by 2 to the 64, it wraps around to less than 0.
    @Says(promise = 0, words = "4 M times M, however great")
    static void theSquareOfMDoesNotWrap() {
        allRowsOfBoth(999_999_937, "2 6 3 2 13 1 83 1 1609 1", "2 1 7 2 10204081 1");
        allRowsOfBoth(999_999_893, "2 2 1031 1 242483 1", "2 1 3 1 166666649 1");
    }

    private static void allRowsOfBoth(int n, String downs, String ups) {
        PrimeProofs x = new PrimeProofs();
        int pratt = x.find(n, 1);
        int lucas = x.find(n, 3);
        String base = " " + x.row(pratt, false, 0, 2);
        String based = downs.replaceAll("(\\d+ \\d+)", "$1" + base);
        due(read(x, "both " + n + " with " + x.line(lucas, 2) + " " + x.line(lucas, 3) + " down " + based + " up " + ups + ";"), 1, "read");
        due(x.line(x.count(0) - 1, 6), 0, "the FAULT of BOTH of " + n + " with all ROWS");
    }

    @Says(promise = 0, words = "4 what is left of n by M is more than 1, less than n and divides n: it divides")
    static void whatIsLeftDivides() {
        faultOf("small 2;both 15 with 1 3 down 2 1 4 up 2 2;", 4);
        faultOf("small 2;small 3;both 35 with 1 3 down up 2 1 3 1;", 4);
        // Of 125 by 12 5 is left.
        faultOf("small 2;small 3;both 125 with 1 1 down 2 2 2 up 3 1;", 4);
    }

    @Says(promise = 0, words = "4 what is left of n by M divides n (it does not)")
    static void whatIsLeftDoesNotDivide() {
        // Of 7 by 4 3 is left.
        faultOf("small 2;both 7 with 1 3 down 2 1 6 up 2 2;", 0);
        // Of 63 by 16 15 is left, of 63 by 8 7 is.
        faultOf("small 2;both 63 with 1 2 down up 2 4;", 7);
        faultOf("small 2;both 63 with 1 2 down up 2 3;", 4);
    }

    @Says(promise = 0, words = "4 what is left of n by M is more than 1")
    static void whatIsLeftIs1() {
        // Of 7 by 3 and of 3 by 2 1 is left.
        faultOf("small 3;both 7 with 1 3 down 3 1 2 up;", 0);
        faultOf("small 2;both 3 with 1 2 down up 2 1;", 0);
    }

    @Says(promise = 0, words = "4 (n itself, if M is greater), less than n")
    static void whatIsLeftIsNItself() {
        // M is 8, 24: all of 7 is left.
        faultOf("small 2;both 7 with 1 3 down up 2 3;", 0);
        faultOf("small 2;small 3;both 7 with 1 3 down 3 1 2 up 2 3;", 0);
        // M is 28: all of 15 is left, and the next FAULT is told.
        faultOf("small 2;small 7;both 15 with 1 2 down 7 1 2 up 2 2;", 5);
    }

    @Says(promise = 0, words = "5 what is left of BASE to the n less 1 by n isn't 1")
    static void baseToNLess1() {
        // 8 is -1 by 9 and 10 is 1; by 2, 3 and 9 what is left is 4, 0 and 0.
        faultOf("small 2;pratt 9 base 2 by 2 3;", 5);
        faultOf("small 2;pratt 9 base 3 by 2 3;", 5);
        faultOf("small 2;pratt 9 base 9 by 2 3;", 5);
        faultOf("small 2;small 3;pratt 7 base 7 by 2 1 3 1;", 5);
        faultOf("small 2;small 3;pratt 7 base 14 by 2 1 3 1;", 5);
        faultOf("small 2;pratt 9 base 8 by 2 3;", 6);
    }

    @Says(promise = 0, words = "5 is told ahead of 6, be it of a ROW behind")
    static void fault5OfALaterRow() {
        faultOf("small 2;small 3;part 7 by 2 1 2 3 1 7;", 5);
        faultOf("small 2;small 3;part 7 by 2 1 7 3 1 6;", 5);
        faultOf("small 2;small 3;part 7 by 2 1 2 3 1 2;", 6);
    }

    @Says(promise = 0, words = "6 COMMON of (BASE to the (n less 1) by q, less 1) and n isn't 1")
    static void baseToTheNLess1ByQ() {
        faultOf("small 2;small 3;pratt 7 base 2 by 2 1 3 1;", 6);
        faultOf("small 2;small 3;pratt 7 base 6 by 2 1 3 1;", 6);
        faultOf("small 2;small 3;pratt 7 base 3 by 2 1 3 1;", 0);
        faultOf("small 2;small 3;pratt 7 base 10 by 2 1 3 1;", 0);
        faultOf("small 2;small 3;pratt 7 base 8 by 2 1 3 1;", 6);
    }

    @Says(promise = 0, words = "6 COMMON isn't 1 (be it less than n)")
    static void commonThatIsLessThanN() {
        // 1045 is 5 times 11 times 19: COMMON is 209 for the first ROW, 55 for the second one.
        faultOf("small 2;small 3;part 1045 by 2 2 12 3 2 21;", 6);
        // 91 is 7 times 13: COMMON is 13.
        faultOf("small 2;small 23;both 91 with 1 1 down 2 1 3 up 23 1;", 6);
    }

    @Says(promise = 0, words = "7 JACOBI of D and n isn't -1: it is 1")
    static void jacobiIs1() {
        // D is -3, which is 4 by 7, a square.
        faultOf("small 2;lucas 7 with 1 1 by 2 3;", 7);
        faultOf("small 2;both 7 with 1 1 down up 2 3;", 7);
        faultOf("small 2;lucas 7 with 1 3 by 2 3;", 0);
        // D is 17, no square by 3 nor by 5.
        faultOf("small 2;lucas 15 with 5 2 by 2 4;", 7);
    }

    @Says(promise = 0, words = "7 JACOBI of D and n isn't -1: it is 0")
    static void jacobiIs0() {
        // D is 49 less 28, a multiple of 7; 4 less 4 is 0.
        faultOf("small 2;lucas 7 with 7 7 by 2 3;", 7);
        faultOf("small 2;lucas 7 with 2 1 by 2 3;", 7);
        faultOf("small 2;both 7 with 2 1 down up 2 3;", 7);
    }

    @Says(promise = 0, words = "7 COMMON of Q and n isn't 1")
    static void qAndNHaveSomethingInCommon() {
        // D is 13, JACOBI with 15 is -1, and 3 divides 15.
        faultOf("small 2;lucas 15 with 5 3 by 2 4;", 7);
    }

    @Says(promise = 0, words = "8 n does not divide U(n and 1)")
    static void nDoesNotDivideU() {
        faultOf("small 2;small 11;lucas 21 with 1 5 by 2 1 11 1;", 8);
        faultOf("small 2;small 3;small 11;both 21 with 1 5 down 5 1 2 up 11 1;", 2);
        faultOf("small 2;small 11;both 21 with 1 5 down up 11 1;", 8);
    }

    @Says(promise = 0, words = "9 COMMON of U((n and 1) by q) and n isn't 1")
    static void uByQ() {
        faultOf("small 2;lucas 7 with 2 2 by 2 3;", 9);
        faultOf("small 2;lucas 15 with 1 8 by 2 4;", 9);
        faultOf("small 2;both 7 with 2 2 down up 2 3;", 9);
        faultOf("small 2;small 3;both 7 with 2 2 down 3 1 2 up 2 3;", 9);
        // 455 is 5 times 7 times 13: COMMON is 65 for the first ROW, 35 for the second one.
        faultOf("small 2;small 3;both 455 with 2 17 down up 2 3 3 1;", 9);
        // Without UP ROWS there is none of which it could hold.
        faultOf("small 3;both 7 with 2 2 down 3 1 2 up;", 0);
    }

    @Says(promise = 0, words = "the first of these that holds")
    static void theFirstFaultIsTold() {
        faultOf("small 2;part 8 by 3 1 2 3 1 2;", 1);
        faultOf("small 2;part 7 by 5 1 7;", 2);
        faultOf("small 5;part 7 by 5 1 7;", 3);
        faultOf("small 2;part 7 by 2 1 7;", 4);
        faultOf("small 2;small 3;part 7 by 2 1 6 3 1 7;", 5);
        faultOf("small 2;small 3;both 7 with 1 1 down 3 1 6 up 2 3;", 6);
        faultOf("small 2;both 7 with 7 7 down up 2 3;", 7);
        faultOf("small 2;small 11;lucas 21 with 1 5 by 2 1 11 1;", 8);
    }

    @Says(promise = 0, words = "A LINE RESTS on the RIGHT LINES ahead for its q, of each the least")
    static void restsOnTheLeastOnes() {
        PrimeProofs x = with("small 3;part 3 by;small 3;part 7 by 3 1 2;");
        due(x.rests(3), 8 | 1, "rests");
        due(x.set(0, 0, 5), 3, "set");
        due(x.rests(3), 8 | 4, "rests");
    }

    // ---- found

    @Says(promise = 0, words = "FOUND is a LINE of a SORT (1 to 4) for a prime n above 2")
    static void foundFrom3On() {
        for (int sort = 1; sort <= 4; sort++) {
            PrimeProofs x = new PrimeProofs();
            due(x.find(3, sort), 1, "find(3, " + sort + ")");
            due(x.right(), 3, "RIGHT ones");
            nothing(x, () -> x.find(2, 1), NOT, "find(2, 1)");
        }
    }

    @Says(promise = 0, words = "FOUND is the greatest prime that is a NUMBER, too")
    static void foundUpToTheGreatest() {
        for (int sort = 1; sort <= 4; sort++) {
            PrimeProofs x = new PrimeProofs();
            int found = x.find(LAST_PRIME, sort);
            due(found, x.count(0) - 1, "find, SORT " + sort);
            due(x.line(found, 6), 0, "its FAULT, SORT " + sort);
            due(x.right(), (1L << x.count(0)) - 1, "RIGHT ones, SORT " + sort);
        }
    }

    @Says(promise = 0, words = "for each q for which there is no RIGHT LINE: SMALL if q is below 100, else PRATT")
    static void smallBelow100ElsePratt() {
        PrimeProofs x = new PrimeProofs();
        // 389 is 4 times 97 and 1, 607 is 6 times 101 and 1.
        due(x.find(389, 1), 2, "find(389, 1)");
        spelled(x, 1, "small 97;");
        due(x.find(607, 2), 5, "find(607, 2)");
        spelled(x, 3, "small 5;");
        spelled(x, 4, "pratt 101 base 2 by 2 2 5 2;");
    }

    @Says(promise = 0, words = "for each q for which there is no RIGHT LINE (of any SORT)")
    static void noLineComesForWhatIsThere() {
        PrimeProofs x = with("small 2;part 3 by 2 1 2;part 5 by;");
        due(x.find(7, 1), 3, "3 is there, as PART");
        due(x.find(11, 1), 5, "5 is not RIGHT");
        spelled(x, 4, "small 5;");
    }

    @Says(promise = 0, words = "ROW by ROW (DOWN ones first), then it comes itself, behind all")
    static void downOnesComeFirst() {
        PrimeProofs x = new PrimeProofs();
        due(x.find(1009, 4), 4, "find(1009, 4)");
        spelled(x, 0, "small 7;");
        spelled(x, 1, "small 2;");
        spelled(x, 2, "small 5;");
        spelled(x, 3, "pratt 101 base 2 by 2 2 5 2;");
        spelled(x, 4, "both 1009 with 1 3 down 7 1 2 up 101 1;");
    }

    // The primes whose least primitive root is more than that of all below them.
    @Says(promise = 0, words = "all with one BASE, the least by which there is no FAULT")
    static void theLeastBaseIsGreat() {
        int[] primes = {3, 7, 23, 41, 71, 191, 409, 2161, 5881, 36721, 55441, 71761, 110881, 760321, 5109721, 17551561,
            29418841, 33358081, 45024841, 90441961, 184254841, 324013369, 831143041};
        int[] bases = {2, 3, 5, 6, 7, 19, 21, 23, 31, 37, 38, 44, 69, 73, 94, 97, 101, 107, 111, 113, 127, 137, 151};
        for (int i = 0; i < primes.length; i++) {
            PrimeProofs x = new PrimeProofs();
            int found = x.find(primes[i], 1);
            due(x.row(found, false, 0, 2), bases[i], "BASE of " + primes[i]);
            due(x.line(found, 6), 0, "its FAULT");
        }
    }

    @Says(promise = 0, words = "P, Q of LUCAS: the least P, then the least Q by which there is no FAULT 7, 8, 9")
    static void theLeastPAndQ() {
        int[][] all = {{11, 1, 7}, {201_474_839, 1, 99}, {177_657_479, 2, 37}, {412_530_719, 3, 41}, {756_755_999, 3, 74}};
        for (int[] one : all) {
            PrimeProofs x = new PrimeProofs();
            int found = x.find(one[0], 3);
            due(x.line(found, 2), one[1], "P of " + one[0]);
            due(x.line(found, 3), one[2], "Q of " + one[0]);
            due(x.line(found, 6), 0, "the FAULT of " + one[0]);
        }
    }

    @Says(promise = 0, words = "P, Q of BOTH: the least P, then the least Q by which there is no FAULT 7, 8, 9")
    static void theLeastPAndQOfBoth() {
        PrimeProofs x = new PrimeProofs();
        spelled(x, x.find(5, 4), "both 5 with 1 1 down 2 2 2 up;");
        spelled(x, x.find(7, 4), "both 7 with 1 3 down 3 1 2 up;");
        spelled(x, x.find(31, 4), "both 31 with 1 12 down 5 1 2 up 2 5;");
    }

    @Says(promise = 0, words = "PART: from the greatest one on, falling, as few as are enough")
    static void partHasAsFewAsAreEnough() {
        PrimeProofs x = new PrimeProofs();
        // 30 is 2 times 3 times 5: 5 times 5 is less than 31; 42 is 2 times 3 times 7: 7 times 7 is more than 43.
        spelled(x, x.find(31, 2), "part 31 by 5 1 2 3 1 3;");
        spelled(x, x.find(43, 2), "part 43 by 7 1 2;");
        spelled(x, x.find(3, 2), "part 3 by 2 1 2;");
        spelled(x, x.find(5, 2), "part 5 by 2 2 2;");
    }

    @Says(promise = 0, words = "BOTH: one of n less 1, one of n and 1, and so on by turns, as few as are enough")
    static void bothHaveAsFewAsAreEnough() {
        PrimeProofs x = new PrimeProofs();
        spelled(x, x.find(7, 4), "both 7 with 1 3 down 3 1 2 up;");
        due(x.needs(7, 4), 10, "one is enough");
        due(x.needs(31, 4), 11, "two are enough");
        due(x.needs(81919, 4), 21, "three are enough");
    }

    // ---- texts

    @Says(promise = 0, words = "TEXTS of LINES, 400 bytes at most")
    static void aTextOf400Bytes() {
        PrimeProofs x = new PrimeProofs();
        feed(x, "small 2;".repeat(50));
        due(x.count(3), 400, "the tape");
        due(x.feed(0, 0, 0, 0, 0), NONE, "feed");
        due(x.read(), 50, "read");
    }

    @Says(promise = 0, words = "WORDS (small letters, as far as they go on)")
    static void wordsAreSmallLetters() {
        fault("Small 2;", 0);
        fault("smalL 2;", 0);
        fault("smallz 2;", 0);
        fault("zsmall 2;", 0);
        fault("smal 2;", 0);
        fault("s mall 2;", 0);
        fault("pratt 7 based 3 by;", 8);
        fault("pratt 7 bas 3 by;", 8);
        fault("pratt 7 base 3 bya;", 15);
        fault("pratt 7 base 3 b;", 15);
        // The signs next to a and z.
        fault("`small 2;", 0);
        fault("{small 2;", 0);
    }

    /** With another letter in place of each letter a WORD is none that can stand there. */
    private static void otherLetters(String text) {
        for (int i = 0; i < text.length(); i++) {
            if (Character.isLetter(text.charAt(i))) {
                int at = text.lastIndexOf(' ', i) + 1;
                fault(text.substring(0, i) + 'x' + text.substring(i + 1), at);
            }
        }
    }

    @Says(promise = 0, words = "WORDS: each letter counts")
    static void eachLetterCounts() {
        otherLetters("small 7;");
        otherLetters("pratt 7 base 3 by 2 1;");
        otherLetters("part 7 by 3 1 2;");
        otherLetters("lucas 7 with 1 3 by 2 3;");
        otherLetters("both 7 with 1 3 down 3 1 2 up 2 3;");
    }

    @Says(promise = 0, words = "WORDS (small letters, as far as they go on): another sign ends them")
    static void anotherSignEndsAWord() {
        // "small" stands, what comes behind it does not.
        fault("small{ 2;", 5);
        fault("small` 2;", 5);
        fault("smallA 2;", 5);
        fault("small; 2;", 5);
        fault("part 7 by{", 9);
    }

    @Says(promise = 0, words = "INTS (digits, as far as they go on)")
    static void intsAreDigits() {
        fault("small 7/;", 7);
        fault("small 7:;", 7);
        fault("small /7;", 6);
        fault("small :7;", 6);
        fault("small -7;", 6);
        fault("small +7;", 6);
        fault("small 7.0;", 7);
        told("small 90;");
    }

    @Says(promise = 0, words = "INTS (10 digits at most)")
    static void intsHave10DigitsAtMost() {
        told("small 1000000000;");
        fault("small 1000000001;", 6);
        fault("small 9999999999;", 6);
        fault("small 10000000000;", 6);
        fault("small 12345678901;", 6);
        fault("part 7 by 2 00000000001 2;", 12);
    }

    @Says(promise = 0, words = "INTS (0s ahead, too)")
    static void intsMayHave0sAhead() {
        PrimeProofs x = with("small 0000000007;part 00007 by 0000000003 0000000001 0000000002;");
        spelled(x, 0, "small 7;");
        spelled(x, 1, "part 7 by 3 1 2;");
        fault("small 00000000007;", 6);
        fault("small 0000000000;", 6);
        fault("small 00;", 6);
    }

    // 4294967298 is 2 to the 32 and 2, 18446744073709551618 is 2 to the 64 and 2.
    @Says(promise = 0, words = "INTS that would wrap around to one that LINES have")
    static void intsDoNotWrap() {
        fault("small 4294967298;", 6);
        fault("small 4294967297;", 6);
        fault("small 18446744073709551618;", 6);
        fault("pratt 7 base 4294967299 by;", 13);
        fault("lucas 7 with 4294967297 1 by;", 13);
        fault("part 7 by 2 4294967297 2;", 12);
        fault("small 2;small " + "9".repeat(60) + ";", 14);
    }

    @Says(promise = 0, words = "blanks (32) where one likes")
    static void blanksWhereOneLikes() {
        PrimeProofs x = new PrimeProofs();
        due(read(x, "   both   7  with 1   3  down  3   1  2   up   2 3   ;   small  2  ;  "), 2, "read");
        spelled(x, 0, "both 7 with 1 3 down 3 1 2 up 2 3;");
        spelled(x, 1, "small 2;");
    }

    @Says(promise = 0, words = "blanks (32): no other sign is one")
    static void otherSignsAreNoBlanks() {
        fault("\tsmall 2;", 0);
        fault("small\t2;", 5);
        fault("small 2\n;", 7);
        fault("small 2;\r", 8);
        fault("small 2;" + (char) 0, 8);
        fault("small" + (char) 31 + "2;", 5);
        fault("small" + (char) 33 + "2;", 5);
        fault("small" + (char) 160 + "2;", 5);
    }

    @Says(promise = 0, words = "none but a blank is needed: none ahead of ; nor behind it")
    static void noBlanksByTheEnd() {
        PrimeProofs x = new PrimeProofs();
        due(read(x, "small 2;small 3;pratt 7 base 3 by 2 1 3 1;part 7 by;"), 4, "read");
    }

    @Says(promise = 0, words = "one at least between two WORDS or INTS (else the second one can't stand there)")
    static void oneBlankAtLeast() {
        fault("small7;", 5);
        fault("pratt7 base 3 by;", 5);
        fault("pratt 7base 3 by;", 7);
        fault("pratt 7 base3 by;", 12);
        fault("pratt 7 base 3by;", 14);
        fault("pratt 7 base 3 by2 1;", 17);
        fault("lucas 7 with1 3 by;", 12);
        fault("both 7 with 1 3down up;", 15);
        fault("both 7 with 1 3 down3 1 2 up;", 20);
        fault("both 7 with 1 3 down 3 1 2up;", 26);
        fault("both 7 with 1 3 down up2 1;", 23);
        fault("small 7x;", 7);
        fault("smallx7;", 0);
    }

    @Says(promise = 0, words = "; behind each LINE")
    static void anEndBehindEachLine() {
        fault("small 2", 7);
        fault("small 2 small 3;", 8);
        fault("small 2;small 3", 15);
        fault("small 2;;", 8);
        fault(";", 0);
        fault(" ;small 2;", 1);
        fault("small 2:", 7);
    }

    @Says(promise = 0, words = "small n")
    static void theTextOfSmall() {
        told("small 2;");
        fault("small;", 5);
        fault("small n;", 6);
        fault("small 2 3;", 8);
        fault("small 2 by;", 8);
    }

    @Says(promise = 0, words = "pratt n base a by {q e}")
    static void theTextOfPratt() {
        told("pratt 7 base 3 by;");
        told("pratt 7 base 3 by 2 1 3 1;");
        fault("pratt base 3 by;", 6);
        fault("pratt 7 3 by;", 8);
        fault("pratt 7 by 2 1;", 8);
        fault("pratt 7 base by;", 13);
        fault("pratt 7 base 3;", 14);
        fault("pratt 7 base 3 2 1;", 15);
        fault("pratt 7 base 3 by 2;", 19);
        fault("pratt 7 base 3 by 2 1 3;", 23);
        fault("pratt 7 base 3 with 2 1;", 15);
    }

    @Says(promise = 0, words = "part n by {q e a}")
    static void theTextOfPart() {
        told("part 7 by;");
        told("part 7 by 3 1 2;");
        fault("part by;", 5);
        fault("part 7;", 6);
        fault("part 7 base 3 by;", 7);
        fault("part 7 by 3;", 11);
        fault("part 7 by 3 1;", 13);
        fault("part 7 by 3 1 2 2 1;", 19);
        fault("part 7 by 3 1 by;", 14);
    }

    @Says(promise = 0, words = "lucas n with P Q by {q e}")
    static void theTextOfLucas() {
        told("lucas 7 with 1 3 by;");
        told("lucas 7 with 1 3 by 2 3;");
        fault("lucas with 1 3 by;", 6);
        fault("lucas 7 by 2 3;", 8);
        fault("lucas 7 1 3 by;", 8);
        fault("lucas 7 with by;", 13);
        fault("lucas 7 with 1 by;", 15);
        fault("lucas 7 with 1 3;", 16);
        fault("lucas 7 with 1 3 up;", 17);
        fault("lucas 7 with 1 3 by 2;", 21);
        fault("lucas 7 with 1 3 by 2 3 2;", 25);
    }

    @Says(promise = 0, words = "both n with P Q down {q e a} up {q e}")
    static void theTextOfBoth() {
        told("both 7 with 1 3 down up;");
        told("both 7 with 1 3 down 3 1 2 up 2 3;");
        fault("both 7 down up;", 7);
        fault("both 7 with 1 down up;", 14);
        fault("both 7 with 1 3 up down;", 16);
        fault("both 7 with 1 3 by;", 16);
        fault("both 7 with 1 3 down;", 20);
        fault("both 7 with 1 3 down 3 1 up;", 25);
        fault("both 7 with 1 3 down up 2;", 25);
        fault("both 7 with 1 3 down up 2 3 2;", 29);
        fault("both 7 with 1 3 down up down;", 24);
    }

    @Says(promise = 0, words = "a the BASE of all")
    static void oneBaseOfAll() {
        PrimeProofs x = with("pratt 7 base 5 by 2 1 3 1;");
        due(x.row(0, false, 0, 2), 5, "BASE of the first ROW");
        due(x.row(0, false, 1, 2), 5, "BASE of the second ROW");
    }

    @Says(promise = 0, words = "ROWS none or more, 9 at most: pratt")
    static void nineRowsOfPratt() {
        told("pratt 7 base 3 by" + " 2 1".repeat(9) + ";");
        fault("pratt 7 base 3 by" + " 2 1".repeat(10) + ";", 54);
    }

    @Says(promise = 0, words = "ROWS none or more, 9 at most: part")
    static void nineRowsOfPart() {
        told("part 7 by" + " 2 1 2".repeat(9) + ";");
        fault("part 7 by" + " 2 1 2".repeat(10) + ";", 64);
        fault("part 7 by" + " 2 1 2".repeat(9) + " 1000000001;", 64);
    }

    @Says(promise = 0, words = "ROWS none or more, 9 at most: lucas")
    static void nineRowsOfLucas() {
        told("lucas 7 with 1 1 by" + " 2 1".repeat(9) + ";");
        fault("lucas 7 with 1 1 by" + " 2 1".repeat(10) + ";", 56);
    }

    @Says(promise = 0, words = "ROWS none or more, 9 at most: both, down")
    static void nineDownRowsOfBoth() {
        told("both 7 with 1 1 down" + " 2 1 2".repeat(9) + " up;");
        fault("both 7 with 1 1 down" + " 2 1 2".repeat(10) + " up;", 75);
    }

    @Says(promise = 0, words = "ROWS none or more, 9 at most: both, up")
    static void nineUpRowsOfBoth() {
        told("both 7 with 1 1 down up" + " 2 1".repeat(9) + ";");
        fault("both 7 with 1 1 down up" + " 2 1".repeat(10) + ";", 60);
    }

    private static void intsTold(String ahead, String behind, int least, int most) {
        told(ahead + least + behind);
        told(ahead + most + behind);
        fault(ahead + (least - 1) + behind, ahead.length());
        fault(ahead + (most + 1) + behind, ahead.length());
    }

    @Says(promise = 0, words = "an INT that is not as LINES have it: n")
    static void nAsLinesHaveIt() {
        intsTold("small ", ";", LEAST, MOST);
        intsTold("pratt ", " base 2 by;", LEAST, MOST);
        intsTold("part ", " by;", LEAST, MOST);
        intsTold("lucas ", " with 1 1 by;", LEAST, MOST);
        intsTold("both ", " with 1 1 down up;", LEAST, MOST);
    }

    @Says(promise = 0, words = "an INT that is not as LINES have it: P (1 .. 99)")
    static void pAsLinesHaveIt() {
        intsTold("lucas 7 with ", " 1 by;", 1, 99);
        intsTold("both 7 with ", " 1 down up;", 1, 99);
    }

    @Says(promise = 0, words = "an INT that is not as LINES have it: Q (1 .. 99)")
    static void qAsLinesHaveIt() {
        intsTold("lucas 7 with 1 ", " by;", 1, 99);
        intsTold("both 7 with 1 ", " down up;", 1, 99);
    }

    @Says(promise = 0, words = "an INT that is not as LINES have it: a NUMBER q")
    static void divisorsAsLinesHaveThem() {
        intsTold("pratt 7 base 2 by ", " 1;", LEAST, MOST);
        intsTold("part 7 by ", " 1 2;", LEAST, MOST);
        intsTold("lucas 7 with 1 1 by ", " 1;", LEAST, MOST);
        intsTold("both 7 with 1 1 down ", " 1 2 up;", LEAST, MOST);
        intsTold("both 7 with 1 1 down up ", " 1;", LEAST, MOST);
    }

    @Says(promise = 0, words = "an INT that is not as LINES have it: an EXPONENT (1 .. 30)")
    static void exponentsAsLinesHaveThem() {
        intsTold("pratt 7 base 2 by 2 ", ";", 1, 30);
        intsTold("part 7 by 2 ", " 2;", 1, 30);
        intsTold("lucas 7 with 1 1 by 2 ", ";", 1, 30);
        intsTold("both 7 with 1 1 down 2 ", " 2 up;", 1, 30);
        intsTold("both 7 with 1 1 down up 2 ", ";", 1, 30);
    }

    @Says(promise = 0, words = "an INT that is not as LINES have it: a BASE (2 .. 999)")
    static void basesAsLinesHaveThem() {
        intsTold("pratt 7 base ", " by;", 2, 999);
        intsTold("part 7 by 2 1 ", ";", 2, 999);
        intsTold("both 7 with 1 1 down 2 1 ", " up;", 2, 999);
    }

    /** Each beginning of a text of one line; a WORD that is cut short is itself what can't stand there. */
    private static void cutShort(String text) {
        for (int length = 1; length < text.length(); length++) {
            int at = length;
            boolean midWord = Character.isLetter(text.charAt(length - 1)) && Character.isLetter(text.charAt(length));
            while (midWord && at > 0 && Character.isLetter(text.charAt(at - 1))) {
                at--;
            }
            PrimeProofs x = new PrimeProofs();
            String begun = text.substring(0, length);
            due(read(x, begun), -4 - at, "read() of \"" + begun + "\"");
            due(x.count(0), 0, "lines");
        }
    }

    @Says(promise = 0, words = "FAULT of a TEXT: its length, if it ends too early")
    static void textsThatEndTooEarly() {
        cutShort("small 23;");
        cutShort("pratt 7 base 31 by 2 1 3 1;");
        cutShort("part 7 by 31 1 2 2 11 31;");
        cutShort("lucas 7 with 11 3 by 2 3 5 1;");
        cutShort("both 7 with 1 33 down 3 1 2 2 1 6 up 2 3 5 1;");
        fault("small 2  ", 9);
        fault("small     ", 10);
        fault("small 2; part", 13);
    }

    @Says(promise = 0, words = "FAULT of a TEXT: its length, of the longest TEXT")
    static void theLongestTextEndsTooEarly() {
        fault("small 2;".repeat(49) + "small 22", 400);
        fault("small 2;".repeat(49) + "small 2:", 399);
        fault(" ".repeat(399) + ";", 399);
        fault(" ".repeat(395) + "small", 400);
    }

    @Says(promise = 0, words = "FAULT of a TEXT: the first byte: all stays then")
    static void allStaysBehindAFault() {
        PrimeProofs x = with("small 2;small 4;");
        String before = state(x);
        due(read(x, "small 3;small 5;smal 7;"), -4 - 16, "read");
        alike(state(x), before, "the state behind it");
    }

    @Says(promise = 0, words = "(A TEXT of blanks tells no LINES.)")
    static void blanksTellNoLines() {
        PrimeProofs x = with("small 2;");
        due(read(x, " "), 0, "one blank");
        due(read(x, " ".repeat(400)), 0, "400 blanks");
        due(x.count(0), 1, "lines");
        due(x.count(3), 0, "the tape");
    }

    @Says(promise = 0, words = "Else its LINES come behind those there are, as told")
    static void linesComeAsTold() {
        PrimeProofs x = with("small 2;");
        due(read(x, "part 9 by 2 30 999;small 2;"), 2, "read");
        spelled(x, 0, "small 2;");
        spelled(x, 1, "part 9 by 2 30 999;");
        spelled(x, 2, "small 2;");
    }

    @Says(promise = 0, words = "Where NONE and -2 could both be told, it is NONE")
    static void noneIsToldAheadOfNot() {
        PrimeProofs x = with("small 2;part 9 by 2 1 2;");
        due(x.find(4, 5), NONE, "find(4, 5)");
        due(x.find(1, 1), NONE, "find(1, 1)");
        due(x.loose(1, 1), NONE, "loose(1, 1)");
        due(x.shared(1, 2), NONE, "shared(1, 2)");
        due(x.shared(2, 1), NONE, "shared(2, 1)");
        due(x.needs(9, 0), NONE, "needs(9, 0)");
        due(x.needs(9, 5), NONE, "needs(9, 5)");
        due(x.needs(2, 5), NONE, "needs(2, 5)");
        due(x.order(-4, 2), NONE, "order(-4, 2)");
        due(x.order(0, 1), NONE, "order(0, 1)");
        due(x.order(4, 1_000_002), NONE, "order(4, 1000002)");
    }
}
