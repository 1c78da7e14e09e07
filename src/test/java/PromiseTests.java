/** For each promise of the document: ordinary inputs, the edges that it names, and wrong inputs. */
public final class PromiseTests extends Tests {
    private static final int[] WILD = {MIN, -3, -2, -1, 60, 61, 1000, 1_000_000_001, MAX};
    private static final String TO31 =
            "small 2;small 3;small 5;small 7;small 11;small 13;small 17;small 19;small 23;small 29;small 31;";

    // ---- 1 to 5

    private static void aNewObject() {
        PrimeProofs x = new PrimeProofs();
        for (int what = 0; what <= 6; what++) {
            due(x.count(what), 0, "count " + what);
        }
        due(x.right(), 0, "right");
        due(x.drop(), NONE, "drop");
        due(x.read(), 0, "read");
        PrimeProofs other = new PrimeProofs();
        x.find(7, 1);
        due(other.count(0), 0, "lines of another one");
    }

    private static void find() {
        PrimeProofs x = new PrimeProofs();
        due(x.find(1009, 1), 3, "find(1009, 1)");
        spelled(x, 0, "small 2;");
        spelled(x, 1, "small 3;");
        spelled(x, 2, "small 7;");
        spelled(x, 3, "pratt 1009 base 11 by 2 4 3 2 7 1;");
        due(x.find(1009, 2), 4, "find(1009, 2)");
        spelled(x, 4, "part 1009 by 7 1 2 3 2 2;");
        due(x.find(1009, 3), 7, "find(1009, 3)");
        spelled(x, 5, "small 5;");
        spelled(x, 6, "pratt 101 base 2 by 2 2 5 2;");
        spelled(x, 7, "lucas 1009 with 1 11 by 2 1 5 1 101 1;");
        due(x.find(1009, 4), 8, "find(1009, 4)");
        spelled(x, 8, "both 1009 with 1 3 down 7 1 2 up 101 1;");
        due(x.right(), 511, "all are right");
        due(x.find(1009, 1), 3, "there is one");
        due(x.find(1009, 4), 8, "there is one");
        due(x.find(7, 0), 2, "there is one");
        due(x.find(101, 1), 6, "there is one");
        due(x.count(0), 9, "nothing came");
        due(x.find(1010, 1), -2, "no prime");
        due(x.find(101, 0), -2, "SMALL of 101");
        due(x.find(97, 0), 9, "SMALL of 97");
        due(x.find(2, 0), 0, "2 as SMALL");
        for (int sort = 1; sort <= 4; sort++) {
            due(x.find(2, sort), -2, "2 of sort " + sort);
            due(x.find(999_999_999, sort), -2, "no prime of sort " + sort);
        }
        due(x.find(7, 5), NONE, "no sort");
        due(x.find(7, -1), NONE, "no sort");
        due(x.find(1, 0), NONE, "no number");
        due(x.find(1_000_000_001, 1), NONE, "no number");
        due(x.find(1, 9), NONE, "neither");
        for (int wild : WILD) {
            due(x.find(7, wild), NONE, "find(7, " + wild + ")");
        }
        due(x.count(0), 10, "nothing came");
    }

    private static void findDeeply() {
        PrimeProofs x = new PrimeProofs();
        // 1439 is 2 times 719 and 1, that 2 times 359 and 1, that 2 times 179 and 1, that 2 times 89 and 1.
        due(x.find(1439, 2), 5, "find(1439, 2)");
        spelled(x, 0, "small 2;");
        spelled(x, 1, "small 89;");
        spelled(x, 2, "pratt 179 base 2 by 2 1 89 1;");
        spelled(x, 3, "pratt 359 base 7 by 2 1 179 1;");
        spelled(x, 4, "pratt 719 base 11 by 2 1 359 1;");
        spelled(x, 5, "part 1439 by 719 1 2;");
        due(x.deep(5), 4, "deep");
        due(x.find(3, 3), 6, "find(3, 3)");
        spelled(x, 6, "lucas 3 with 1 2 by 2 2;");
        due(x.find(3, 4), 7, "find(3, 4)");
        spelled(x, 7, "both 3 with 1 2 down 2 1 2 up;");
        due(x.find(3, 1), 8, "find(3, 1)");
        spelled(x, 8, "pratt 3 base 2 by 2 1;");
        due(x.find(999_999_937, 1) >= 0 ? 1 : 0, 1, "the greatest prime");
        due(x.find(999_999_937, 3) >= 0 ? 1 : 0, 1, "the greatest prime");
        PrimeProofs y = with("small 4;small 3;");
        due(y.set(1, 0, 9), 3, "set");
        due(y.find(7, 3), 3, "a line that is not right is none");
        spelled(y, 2, "small 2;");
        due(y.set(1, 0, 3), 9, "set");
        due(y.find(3, 0), 1, "it is right again");
    }

    private static void findRarely() {
        PrimeProofs x = with("small 2;");
        // 5 is the greatest prime above, though 2 to the 14 is more; 41 times 5 is not enough.
        due(x.find(81919, 4), 4, "three rows by turns");
        spelled(x, 1, "small 41;");
        spelled(x, 2, "small 37;");
        spelled(x, 3, "small 5;");
        spelled(x, 4, "both 81919 with 1 9 down 41 1 2 37 1 2 up 5 1;");
        due(x.needs(81919, 4), 21, "needs");
        due(x.find(5, 4), 5, "Q 1");
        spelled(x, 5, "both 5 with 1 1 down 2 2 2 up;");
        PrimeProofs y = new PrimeProofs();
        int found = y.find(177657479, 3);
        due(found, 8, "no Q will do by P 1");
        spelled(y, found, "lucas 177657479 with 2 37 by 2 3 3 2 5 1 7 1 11 1 13 1 17 1 29 1;");
        due(y.find(712671959, 3), 10, "no Q will do by P 1");
        due(y.line(10, 2), 2, "P");
        due(y.line(10, 3), 19, "Q");
        due(y.right(), 2047, "all are right");
    }

    private static void findInAFullLedger() {
        PrimeProofs x = with("small 2;".repeat(50));
        due(read(x, "small 2;".repeat(8)), 8, "read");
        due(x.find(1439, 1), -3, "five would come, two can");
        due(x.count(0), 58, "none came");
        due(x.right(), (1L << 58) - 1, "none is right");
        due(x.find(7, 2), 59, "two come");
        due(x.find(7, 2), 59, "there is one");
        due(x.find(2, 0), 0, "there is one");
        due(x.find(5, 0), -3, "no room");
        due(x.find(3, 1), -3, "no room");
        due(x.find(9, 1), -2, "no prime, be there room or not");
        due(x.find(101, 0), -2, "SMALL of 101, be there room or not");
        due(x.find(5, 7), NONE, "no sort");
        due(x.count(0), 60, "none came");
        due(x.right(), (1L << 60) - 1, "all are right");
    }

    private static void feedAndBack() {
        PrimeProofs x = new PrimeProofs();
        due(x.back(0), 0, "back(0)");
        due(x.back(1), NONE, "back(1)");
        due(x.back(-1), NONE, "back(-1)");
        for (int i = 1; i <= 20; i++) {
            due(x.feed(0, MIN, MAX, -1, 538976288), 20 * i, "feed " + i);
        }
        due(x.feed(0, 0, 0, 0, 0), NONE, "feed beyond 400");
        due(x.count(3), 400, "nothing came");
        due(x.back(1), 399, "back(1)");
        due(x.feed(0, 0, 0, 0, 0), NONE, "feed beyond 400");
        due(x.back(400), NONE, "back(400)");
        due(x.back(MAX), NONE, "back(MAX)");
        due(x.back(MIN), NONE, "back(MIN)");
        due(x.count(3), 399, "nothing went");
        due(x.back(18), 381, "back(18)");
        due(x.feed(0, 0, 0, 0, 0), NONE, "feed up to 401");
        due(x.back(1), 380, "back(1)");
        due(x.feed(0, 0, 0, 0, 0), 400, "feed up to 400");
        due(x.back(400), 0, "back(400)");
        // "smal", "l 7;", then blanks: the highest byte comes first.
        due(x.feed(1936548204, 1814050619, 538976288, 538976288, 538976288), 20, "feed");
        due(x.read(), 1, "read");
        spelled(x, 0, "small 7;");
    }

    private static void readLines() {
        PrimeProofs x = new PrimeProofs();
        due(read(x, "small 7;pratt 9 base 999 by 2 30 1000000000 1;part 2 by;lucas 4 with 99 1 by 2 1 2 1;"), 4, "read");
        spelled(x, 0, "small 7;");
        spelled(x, 1, "pratt 9 base 999 by 2 30 1000000000 1;");
        spelled(x, 2, "part 2 by;");
        spelled(x, 3, "lucas 4 with 99 1 by 2 1 2 1;");
        due(read(x, "  both 007 with 0000000001 3   down 3 1 2 5 02 999 up 2 3 ;  "), 1, "read");
        spelled(x, 4, "both 7 with 1 3 down 3 1 2 5 2 999 up 2 3;");
        due(read(x, "     "), 0, "blanks tell no lines");
        due(x.count(3), 0, "the tape");
        due(read(x, ""), 0, "nothing tells no lines");
        due(read(x, "small 1000000000;small 0000000002;"), 2, "read");
        due(read(x, "lucas 7 with 1 1 by" + " 2 1".repeat(9) + ";"), 1, "nine rows");
        due(x.line(7, 5), 9, "nine rows");
        due(read(x, "both 7 with 1 1 down" + " 3 1 2".repeat(9) + " up" + " 2 1".repeat(9) + ";"), 1, "nine of each");
        due(x.line(8, 4), 9, "nine down");
        due(x.line(8, 5), 9, "nine up");
    }

    private static void readFaults() {
        fault("smal 7;", 0);
        fault("smalll 7;", 0);
        fault("Small 7;", 0);
        fault("; small 7;", 0);
        fault("7;", 0);
        fault("sma", 0);
        fault("small", 5);
        fault("small   ", 8);
        fault("small 7", 7);
        fault("small 7  ", 9);
        fault("small7;", 5);
        fault("small 7x;", 7);
        fault("small x;", 6);
        fault("small ;", 6);
        fault("small 1;", 6);
        fault("small 0;", 6);
        fault("small 1000000001;", 6);
        fault("small 9999999999;", 6);
        fault("small 99999999999;", 6);
        fault("small 00000000002;", 6);
        fault("small 000000000023;", 6);
        fault("small 7 7;", 8);
        fault("small 7\t;", 7);
        fault("small 7;\n", 8);
        fault("small 7;;", 8);
        fault("small 7; small 8; x", 18);
        fault("small -7;", 6);
        fault("pratt 7 by 2 1;", 8);
        fault("pratt 7 base 1 by;", 13);
        fault("pratt 7 base 1000 by;", 13);
        fault("pratt 7 base by;", 13);
        fault("pratt 7 base 3 ;", 15);
        fault("pratt 7 base 3by;", 14);
        fault("pratt 7 base 3 by2 1;", 17);
        fault("pratt 7 base 3 by 2;", 19);
        fault("pratt 7 base 3 by 2 0;", 20);
        fault("pratt 7 base 3 by 2 31;", 20);
        fault("pratt 7 base 3 by 2 1 3;", 23);
        fault("pratt 7 base 3 by 1 1;", 18);
        fault("pratt 7 base 3 by 2 1 up;", 22);
        fault("pratt 7 base 3 by 2 1", 21);
        fault("part 7 base 3 by;", 7);
        fault("part 7 by 3 1;", 13);
        fault("part 7 by 3 1 1;", 14);
        fault("part 7 by 3 1 1000;", 14);
        fault("part 7 by 3 1 2 2;", 17);
        fault("part 7 by 3 1 2up;", 15);
        fault("lucas 7 by 2 3;", 8);
        fault("lucas 7 with 0 1 by;", 13);
        fault("lucas 7 with 100 1 by;", 13);
        fault("lucas 7 with 1 0 by;", 15);
        fault("lucas 7 with 1 100 by;", 15);
        fault("lucas 7 with 1 by;", 15);
        fault("lucas 7 with 1 1 down;", 17);
        fault("lucas 7 with 1 1 by 2 3 5 2 ", 28);
        fault("both 7 with 1 1 by;", 16);
        fault("both 7 with 1 1 down;", 20);
        fault("both 7 with 1 1 down up", 23);
        fault("both 7 with 1 1 down 2 1 up;", 25);
        fault("both 7 with 1 1 down up 2 1 2;", 29);
        fault("lucas 7 with 1 1 by" + " 2 1".repeat(10) + ";", 56);
        fault("part 7 by" + " 2 1 2".repeat(9) + " x", 64);
        fault("part 7 by" + " 2 1 2".repeat(9) + " 0", 64);
        fault("small 2; " + (char) 233, 9);
        fault("small 2;" + (char) 0, 8);
        fault("small" + (char) 160 + "2;", 5);
        fault("small 2;".repeat(30) + "small 2 ", 248);
    }

    private static void readInAFullLedger() {
        PrimeProofs x = with("small 2;".repeat(50));
        due(read(x, "small 2;".repeat(9)), 9, "nine more");
        due(read(x, "small 3;small 5;"), -3, "two more");
        due(x.count(0), 59, "none came");
        due(x.count(3), 0, "the tape");
        due(read(x, "small 3;small 5;small"), -25, "a FAULT before that");
        due(read(x, "small 3;"), 1, "one more");
        due(read(x, "small 3;"), -3, "one more");
        due(read(x, " "), 0, "no lines");
        due(x.count(0), 60, "60");
        due(x.right(), (1L << 60) - 1, "all right");
    }

    // ---- the terms

    private static void faults() {
        faultOf("small 97;", 0);
        faultOf("small 91;", 1);
        faultOf("small 100;", 1);
        faultOf("small 101;", 1);
        faultOf("small 2;pratt 2 base 2 by 2 1;", 1);
        faultOf("small 2;part 8 by 2 1 2;", 1);
        faultOf("small 2;small 3;pratt 7 base 3 by 2 1 3 1;", 0);
        faultOf("small 2;pratt 7 base 3 by 2 1 3 1;", 2);
        faultOf("small 2;small 9;pratt 7 base 3 by 2 1 3 1;", 2);
        faultOf("small 2;small 3;pratt 7 base 3 by 2 1 3 1 2 1;", 2);
        faultOf("small 2;small 3;pratt 7 base 3 by 2 1;", 3);
        faultOf("small 2;small 3;pratt 7 base 3 by 2 2 3 1;", 3);
        faultOf("pratt 7 base 3 by;", 3);
        faultOf("small 2;small 3;pratt 7 base 6 by 2 1 3 1;", 6);
        faultOf("small 2;small 3;pratt 7 base 2 by 2 1 3 1;", 6);
        faultOf("small 2;small 3;pratt 7 base 7 by 2 1 3 1;", 5);
        // Base 2 leaves FAULT 6 by 2, base 7 FAULT 5: the less one is told, be its row behind.
        faultOf("small 2;small 3;part 7 by 2 1 2 3 1 7;", 5);
        faultOf("small 2;pratt 9 base 8 by 2 3;", 6);
        faultOf("small 2;pratt 9 base 2 by 2 3;", 5);
        faultOf("small 2;pratt 9 base 3 by 2 3;", 5);
        faultOf("part 7 by;", 4);
        faultOf("small 3;part 7 by 3 1 2;", 0);
        faultOf("small 2;part 7 by 2 1 3;", 4);
        faultOf("small 5;part 7 by 5 1 2;", 3);
        faultOf("small 3;part 7 by 3 30 2;", 3);
        faultOf("small 2;small 3;small 5;part 7 by 2 30 2 3 30 2 5 30 2;", 3);
        faultOf("small 2;part 17 by 2 2 3;", 4);
        faultOf("small 2;part 17 by 2 3 3;", 0);
        faultOf("small 2;part 9 by 2 1 8;", 4);
    }

    private static void faultsUpward() {
        faultOf("small 2;lucas 7 with 1 3 by 2 3;", 0);
        faultOf("small 2;lucas 7 with 1 3 by 2 2;", 3);
        faultOf("lucas 7 with 1 3 by;", 3);
        faultOf("small 2;lucas 7 with 1 3 by 2 1 2 2;", 2);
        faultOf("lucas 7 with 1 3 by 2 3;", 2);
        faultOf("small 2;lucas 6 with 1 3 by 2 3;", 1);
        // D is 1 less 4, which is 4 by 7 and a square.
        faultOf("small 2;lucas 7 with 1 1 by 2 3;", 7);
        // D is a multiple of 7.
        faultOf("small 2;lucas 7 with 7 7 by 2 3;", 7);
        // D is 13, of which JACOBI with 15 is less 1, but 3 divides Q and 15.
        faultOf("small 2;lucas 15 with 5 3 by 2 4;", 7);
        faultOf("small 2;lucas 3 with 1 2 by 2 2;", 0);
        // U(k) of P 7 and Q 2 is 0 by 7 for all even k.
        faultOf("small 2;lucas 7 with 7 2 by 2 3;", 9);
        faultOf("small 2;lucas 7 with 7 1 by 2 3;", 9);
        faultOf("small 2;lucas 7 with 2 2 by 2 3;", 9);
        faultOf("small 2;lucas 15 with 1 5 by 2 4;", 7);
        faultOf("small 2;lucas 15 with 1 2 by 2 4;", 7);
        // JACOBI with 3 is less 1, with 7 it is 1, and U(22) is no multiple of 7.
        faultOf("small 2;small 11;lucas 21 with 1 5 by 2 1 11 1;", 8);
        // JACOBI with 3 is less 1, with 5 it is 1, and U(16) is a multiple of both, as U(8) is.
        faultOf("small 2;lucas 15 with 1 8 by 2 4;", 9);
        faultOf("small 3;both 7 with 1 3 down 3 1 2 up;", 0);
        faultOf("small 2;both 7 with 1 3 down up 2 3;", 0);
        faultOf("both 7 with 1 3 down up;", 4);
        // 2 times 2 is less than 5, 2 times 3 is not.
        faultOf("small 2;both 5 with 1 1 down 2 1 2 up;", 4);
        faultOf("small 2;both 5 with 1 1 down 2 2 2 up;", 0);
        faultOf("small 2;both 7 with 1 3 down up 2 1;", 4);
        faultOf("small 2;both 7 with 1 3 down 2 1 6 up 2 1;", 4);
        faultOf("small 2;both 7 with 1 3 down 2 1 6 up 2 2;", 0);
        faultOf("small 2;both 7 with 1 3 down 2 2 6 up;", 3);
        faultOf("small 2;both 7 with 1 3 down up 2 4;", 3);
        faultOf("small 2;both 7 with 1 3 down 2 1 2 up 2 2;", 6);
        faultOf("small 2;both 7 with 1 3 down 2 1 14 up 2 2;", 5);
        faultOf("small 2;both 7 with 1 1 down 2 1 6 up 2 2;", 7);
        faultOf("small 2;both 7 with 2 2 down 2 1 6 up 2 2;", 9);
        // What is left of 35 by 12 is 11; of 15 by 4 it is 3, and divides 15.
        faultOf("small 2;small 3;both 35 with 1 1 down 2 1 34 up 2 2 3 1;", 9);
        faultOf("small 2;both 15 with 1 3 down 2 1 4 up 2 2;", 4);
        // The least that 7 and 4 divide is 28: what is left of 15 by it is 15 itself.
        faultOf("small 2;small 7;both 15 with 1 2 down 7 1 4 up 2 2;", 6);
        faultOf("small 2;small 7;both 15 with 1 2 down 7 1 2 up 2 2;", 5);
        // 65 by 12 leaves 5; 64 and 66 are divided by 4 and by 6.
        faultOf("small 2;small 3;both 65 with 1 3 down 2 2 8 up 2 1 3 1;", 4);
    }

    private static void faultsInOrder() {
        // 1 is told ahead of 2, 2 ahead of 3, and so on, though the later ones hold, too.
        PrimeProofs x = with("part 8 by 3 1 2 3 1 2;small 2;small 3;small 5;part 7 by 5 1 7;");
        due(x.line(0, 6), 1, "even, and a q twice");
        due(x.set(0, 0, 7), 8, "set");
        due(x.line(0, 6), 2, "a q twice");
        due(x.cut(0, false, 0), 1, "cut");
        due(x.line(0, 6), 2, "no line for q");
        due(x.move(0, 4), 1, "move");
        due(x.line(4, 6), 0, "right");
        due(x.line(3, 6), 3, "5 does not divide 6");
        due(x.alter(3, false, 0, 0, 2), 5, "alter");
        due(x.line(3, 6), 4, "2 is not enough");
        due(x.alter(3, false, 0, 0, 3), 2, "alter");
        due(x.line(3, 6), 5, "base 7");
        due(x.alter(3, false, 0, 2, 6), 7, "alter");
        due(x.line(3, 6), 6, "6 to the 2 is 1");
        due(x.alter(3, false, 0, 2, 5), 6, "alter");
        due(x.line(3, 6), 0, "right");
    }

    // ---- 6 to 13

    private static void set() {
        PrimeProofs x = with("small 2;lucas 7 with 1 3 by 2 3;both 7 with 1 3 down up 2 3;pratt 7 base 3 by;part 7 by;");
        due(x.set(1, 0, 11), 7, "n");
        due(x.line(1, 0), 11, "n");
        due(x.line(1, 6), 3, "its FAULT");
        due(x.set(1, 0, 11), 11, "n alike");
        due(x.set(1, 0, 1_000_000_000), 11, "the greatest n");
        due(x.set(1, 0, 2), 1_000_000_000, "the least n");
        due(x.set(1, 0, 1), NONE, "no number");
        due(x.set(1, 0, 1_000_000_001), NONE, "no number");
        due(x.line(1, 0), 2, "nothing happened");
        for (int line = 1; line <= 2; line++) {
            due(x.set(line, 1, 99), 1, "P");
            due(x.set(line, 1, 100), NONE, "no P");
            due(x.set(line, 1, 0), NONE, "no P");
            due(x.line(line, 2), 99, "P");
            due(x.set(line, 2, 99), 3, "Q");
            due(x.set(line, 2, 100), NONE, "no Q");
            due(x.set(line, 2, 0), NONE, "no Q");
            due(x.line(line, 3), 99, "Q");
            due(x.set(line, 1, 1), 99, "P");
            due(x.set(line, 2, 1), 99, "Q");
        }
        for (int line : new int[] {0, 3, 4}) {
            due(x.set(line, 1, 5), NONE, "P of a sort without");
            due(x.set(line, 2, 5), NONE, "Q of a sort without");
            due(x.line(line, 2) + x.line(line, 3), 0, "P and Q");
        }
        due(x.set(1, 3, 5), NONE, "no such what");
        due(x.set(1, -1, 5), NONE, "no such what");
        due(x.set(5, 0, 5), NONE, "no such line");
        for (int wild : WILD) {
            due(x.set(wild, 0, 5), NONE, "no such line");
            due(x.set(1, wild, 5), NONE, "no such what");
        }
        due(x.set(0, 0, 3), 2, "another n");
        due(x.right(), 1, "what rested on it fell");
        due(x.set(0, 0, 2), 3, "2 again");
        due(x.set(2, 2, 3), 1, "3 again");
        due(x.right(), 5, "it is right again");
    }

    private static void alter() {
        PrimeProofs x = with("small 2;small 3;part 7 by 3 1 2;both 7 with 1 3 down 3 1 2 up 2 1;");
        due(x.alter(2, false, 0, 0, 1_000_000_000), 3, "q");
        due(x.row(2, false, 0, 0), 1_000_000_000, "q");
        due(x.alter(2, false, 0, 0, 2), 1_000_000_000, "q");
        due(x.alter(2, false, 0, 0, 1), NONE, "no q");
        due(x.alter(2, false, 0, 0, 1_000_000_001), NONE, "no q");
        due(x.alter(2, false, 0, 1, 1), 1, "EXPONENT alike");
        due(x.alter(2, false, 0, 2, 2), 2, "BASE alike");
        due(x.alter(2, false, 0, 1, 30), 1, "EXPONENT");
        due(x.alter(2, false, 0, 1, 31), NONE, "no EXPONENT");
        due(x.alter(2, false, 0, 1, 0), NONE, "no EXPONENT");
        due(x.alter(2, false, 0, 2, 999), 2, "BASE");
        due(x.alter(2, false, 0, 2, 1000), NONE, "no BASE");
        due(x.alter(2, false, 0, 2, 1), NONE, "no BASE");
        spelled(x, 2, "part 7 by 2 30 999;");
        due(x.alter(3, true, 0, 0, 5), 2, "q above");
        due(x.alter(3, true, 0, 1, 3), 1, "EXPONENT above");
        due(x.alter(3, true, 0, 2, 5), NONE, "no BASE above");
        due(x.alter(3, false, 0, 2, 5), 2, "BASE below");
        spelled(x, 3, "both 7 with 1 3 down 3 1 5 up 5 3;");
        due(x.row(3, true, 0, 2), 0, "no BASE above");
        due(x.alter(2, true, 0, 0, 2), NONE, "no row above");
        due(x.alter(2, false, 1, 0, 2), NONE, "no such row");
        due(x.alter(0, false, 0, 0, 2), NONE, "no rows");
        due(x.alter(3, true, 0, 3, 2), NONE, "no such what");
        for (int wild : WILD) {
            due(x.alter(wild, false, 0, 0, 2), NONE, "no such line");
            due(x.alter(2, false, wild, 0, 2), NONE, "no such row");
            due(x.alter(2, false, 0, wild, 2), NONE, "no such what");
        }
        due(x.alter(3, true, 0, 0, 2), 5, "q above");
        due(x.line(3, 6), 0, "right");
        due(x.alter(3, true, 0, 1, 4), 3, "EXPONENT above");
        due(x.line(3, 6), 3, "its FAULT");
    }

    private static void cut() {
        PrimeProofs x = with("small 2;small 3;both 7 with 1 3 down 5 1 4 3 1 2 2 1 3 up 2 3 5 4;");
        due(x.cut(2, false, 3), NONE, "no such row");
        due(x.cut(2, false, -1), NONE, "no such row");
        due(x.cut(2, true, 2), NONE, "no such row");
        due(x.cut(2, false, 0), 2, "the first");
        spelled(x, 2, "both 7 with 1 3 down 3 1 2 2 1 3 up 2 3 5 4;");
        due(x.cut(2, true, 1), 1, "the last");
        spelled(x, 2, "both 7 with 1 3 down 3 1 2 2 1 3 up 2 3;");
        due(x.line(2, 6), 0, "right");
        due(x.cut(2, true, 0), 0, "the only one");
        due(x.cut(2, true, 0), NONE, "none is left");
        due(x.cut(2, false, 0), 1, "the first");
        due(x.line(2, 6), 4, "not enough");
        due(x.cut(0, false, 0), NONE, "no rows");
        due(x.cut(3, false, 0), NONE, "no such line");
        for (int wild : WILD) {
            due(x.cut(wild, false, 0), NONE, "no such line");
            due(x.cut(2, false, wild), NONE, "no such row");
        }
        spelled(x, 2, "both 7 with 1 3 down 2 1 3 up;");
        PrimeProofs y = with("part 7 by" + " 2 1 2 3 1 3 5 1 4".repeat(3) + ";");
        due(y.cut(0, false, 4), 8, "one of nine");
        spelled(y, 0, "part 7 by 2 1 2 3 1 3 5 1 4 2 1 2 5 1 4 2 1 2 3 1 3 5 1 4;");
    }

    private static void move() {
        PrimeProofs x = with("small 2;small 3;small 5;small 7;pratt 7 base 3 by 2 1 3 1;");
        due(x.move(0, 3), 1, "on");
        due(x.line(0, 0), 3, "line 0");
        due(x.line(1, 0), 5, "line 1");
        due(x.line(2, 0), 7, "line 2");
        due(x.line(3, 0), 2, "line 3");
        due(x.right(), 31, "all right");
        due(x.move(4, 1), 0, "ahead of its 2");
        due(x.line(1, 6), 2, "its FAULT");
        due(x.line(2, 0), 5, "line 2");
        due(x.line(4, 0), 2, "line 4");
        due(x.right(), 29, "the others");
        due(x.move(4, 0), 1, "the 2 ahead");
        due(x.right(), 31, "all right");
        spelled(x, 2, "pratt 7 base 3 by 2 1 3 1;");
        due(x.move(1, 1), NONE, "alike");
        due(x.move(1, 5), NONE, "no such place");
        due(x.move(5, 1), NONE, "no such line");
        for (int wild : WILD) {
            due(x.move(wild, 1), NONE, "no such line");
            due(x.move(1, wild), NONE, "no such place");
        }
        spelled(x, 2, "pratt 7 base 3 by 2 1 3 1;");
    }

    private static void mend() {
        PrimeProofs x = with("pratt 1009 base 5 by;part 1009 by 3 1 2;lucas 1009 with 9 9 by;both 1009 with 9 9 down up;"
                + "small 7;small 9;small 101;pratt 2 base 2 by;part 9 by;pratt 7 base 5 by 2 1 3 1;");
        due(x.mend(0), 2, "nothing comes ahead of it");
        spelled(x, 0, "pratt 1009 base 11 by 2 4 3 2 7 1;");
        due(x.mend(1), 2, "PART");
        spelled(x, 1, "part 1009 by 7 1 2 3 2 2;");
        due(x.mend(2), 2, "LUCAS");
        spelled(x, 2, "lucas 1009 with 1 11 by 2 1 5 1 101 1;");
        due(x.mend(3), 2, "BOTH");
        spelled(x, 3, "both 1009 with 1 3 down 7 1 2 up 101 1;");
        due(x.mend(4), 0, "SMALL");
        due(x.mend(5), -2, "SMALL of 9");
        due(x.mend(6), -2, "SMALL of 101");
        due(x.mend(7), -2, "PRATT of 2");
        due(x.mend(8), -2, "PART of 9");
        spelled(x, 8, "part 9 by;");
        due(x.mend(9), 2, "PRATT of 7");
        spelled(x, 9, "pratt 7 base 3 by 2 1 3 1;");
        due(x.count(0), 10, "nothing came");
        due(x.find(3, 0), 10, "3");
        due(x.find(2, 0), 11, "2");
        due(x.move(9, 11), 1, "behind them");
        due(x.alter(11, false, 0, 2, 6), 3, "alter");
        due(x.mend(11), 0, "right");
        spelled(x, 11, "pratt 7 base 3 by 2 1 3 1;");
        due(x.mend(12), NONE, "no such line");
        for (int wild : WILD) {
            due(x.mend(wild), NONE, "no such line");
        }
        PrimeProofs y = with("small 4;small 3;small 3;part 7 by 3 1 2;");
        due(y.set(0, 0, 5), 4, "set");
        due(y.mend(0), 0, "SMALL");
        due(y.right(), 15, "all right");
    }

    private static void prune() {
        PrimeProofs x = with("part 9 by;small 2;small 3;small 2;pratt 7 base 3 by 3 1 2 1;part 29 by 7 1 2;small 4;");
        due(x.prune(6), -2, "not right");
        due(x.prune(7), NONE, "no such line");
        for (int wild : WILD) {
            due(x.prune(wild), NONE, "no such line");
        }
        due(x.count(0), 7, "nothing went");
        due(x.prune(5), 4, "prune");
        spelled(x, 0, "small 2;");
        spelled(x, 1, "small 3;");
        spelled(x, 2, "pratt 7 base 3 by 3 1 2 1;");
        spelled(x, 3, "part 29 by 7 1 2;");
        due(x.right(), 15, "all right");
        for (int i = 0; i < 4; i++) {
            due(x.line(i, 6), 0, "the FAULT of " + i);
        }
        due(x.rests(3), 15, "rests");
        due(x.deep(2), 1, "deep");
        due(x.deep(3), 2, "deep");
        due(x.count(6), 9 + 8, "the cost");
        due(x.find(5, 0), 4, "one comes behind them");
        spelled(x, 4, "small 5;");
        due(x.prune(1), 1, "prune");
        spelled(x, 0, "small 3;");
        due(x.prune(0), 1, "prune again");
    }

    private static void dropAndClear() {
        PrimeProofs x = with("small 2;small 3;small 4;");
        due(x.drop(), 2, "drop");
        due(x.drop(), 1, "drop");
        due(x.line(0, 0), 2, "the first is left");
        due(x.right(), 1, "right");
        due(x.drop(), 0, "drop");
        due(x.drop(), NONE, "there is none");
        due(x.clear(), 0, "clear");
        due(read(x, "small 2;small 3;small 4;"), 3, "read");
        feed(x, "small 7;");
        due(x.clear(), 3, "clear");
        due(x.count(0), 0, "lines");
        due(x.right(), 0, "right");
        due(x.read(), 1, "the tape stayed");
    }

    // ---- 14 to 24

    private static void lineAndRow() {
        PrimeProofs x = with("small 2;small 3;small 3;both 7 with 11 13 down 3 2 17 5 1 4 up 2 3 7 6;small 7;lucas 9 with 4 5 by;");
        int[] want = {7, 4, 11, 13, 2, 2, 2};
        for (int what = 0; what < want.length; what++) {
            due(x.line(3, what), want[what], "line(3, " + what + ")");
        }
        due(x.line(4, 4), 0, "DOWN ROWS of SMALL");
        due(x.alter(3, true, 1, 0, 7), 7, "alter");
        due(x.cut(3, true, 1), 1, "cut");
        due(x.line(3, 4), 2, "DOWN ROWS");
        due(x.line(3, 5), 1, "UP ROWS");
        x = with("small 2;small 3;small 3;both 7 with 11 13 down 3 2 17 5 1 4 up 2 3 7 6;small 7;lucas 9 with 4 5 by;");
        due(x.line(5, 2), 4, "P");
        due(x.line(5, 3), 5, "Q");
        due(x.line(0, 1), 0, "SORT");
        due(x.line(3, 7), NONE, "no such what");
        due(x.line(6, 0), NONE, "no such line");
        due(x.row(3, false, 0, 0), 3, "q");
        due(x.row(3, false, 0, 1), 2, "EXPONENT");
        due(x.row(3, false, 0, 2), 17, "BASE");
        due(x.row(3, false, 0, 3), 1, "the least line for 3");
        due(x.row(3, false, 1, 3), -2, "no line for 5");
        due(x.row(3, true, 0, 2), 0, "BASE above");
        due(x.row(3, true, 0, 3), 0, "the line for 2");
        due(x.row(3, true, 1, 0), 7, "q");
        due(x.row(3, true, 1, 1), 6, "EXPONENT");
        due(x.row(3, true, 1, 3), -2, "the line for 7 is behind");
        due(x.row(3, true, 1, 4), NONE, "no such what");
        due(x.row(3, true, 2, 0), NONE, "no such row");
        due(x.row(3, false, 2, 0), NONE, "no such row");
        due(x.row(0, false, 0, 0), NONE, "no rows");
        for (int wild : WILD) {
            due(x.line(wild, 0), NONE, "no such line");
            due(x.line(0, wild), NONE, "no such what");
            due(x.row(wild, false, 0, 0), NONE, "no such line");
            due(x.row(3, false, wild, 0), NONE, "no such row");
            due(x.row(3, false, 0, wild), NONE, "no such what");
        }
        due(x.set(1, 0, 4), 3, "set");
        due(x.row(3, false, 0, 3), 2, "the next line for 3");
    }

    private static void right() {
        PrimeProofs x = with("small 2;small 4;small 3;pratt 7 base 3 by 2 1 3 1;pratt 7 base 6 by 2 1 3 1;");
        due(x.right(), 13, "right");
        due(x.set(1, 0, 5), 4, "set");
        due(x.right(), 15, "right");
        due(x.set(2, 0, 9), 3, "set");
        due(x.right(), 3, "right");
        PrimeProofs y = with("small 2;".repeat(50));
        due(read(y, "small 2;".repeat(10)), 10, "read");
        due(y.right(), (1L << 60) - 1, "60 lines");
        due(y.set(59, 0, 4), 2, "set");
        due(y.right(), (1L << 59) - 1, "all but the last");
    }

    private static void restsAndDeep() {
        PrimeProofs x = with("small 3;small 2;small 3;small 2;pratt 7 base 3 by 2 1 3 1;part 7 by 3 1 2;part 29 by 7 1 2;"
                + "small 1000;lucas 13 with 1 2 by 2 1 7 1;both 5 with 1 2 down up 2 1 3 1;");
        due(x.rests(0), 1, "itself");
        due(x.rests(4), 1 | 2 | 16, "the least ones");
        due(x.rests(5), 1 | 32, "the least one");
        due(x.rests(6), 1 | 2 | 16 | 64, "and what these rest on");
        due(x.rests(7), -2, "not right");
        due(x.rests(8), 256 | 16 | 1 | 2, "above, too");
        due(x.rests(9), 512 | 1 | 2, "above, too");
        due(x.rests(10), NONE, "no such line");
        due(x.deep(0), 0, "deep without rows");
        due(x.deep(4), 1, "deep");
        due(x.deep(6), 2, "deep");
        due(x.deep(8), 2, "deep");
        due(x.deep(9), 1, "deep");
        due(x.deep(7), -2, "not right");
        due(x.deep(10), NONE, "no such line");
        for (int wild : WILD) {
            due(x.rests(wild), NONE, "no such line");
            due(x.deep(wild), NONE, "no such line");
        }
        due(x.set(0, 0, 4), 3, "set");
        due(x.rests(4), 2 | 4 | 16, "the next one");
    }

    private static void falls() {
        PrimeProofs x = with("small 3;small 2;pratt 7 base 3 by 2 1 3 1;part 7 by 3 1 2;part 29 by 7 1 2;small 9;small 3;");
        due(x.falls(0), 1 | 4 | 8 | 16, "3 is there again, but behind");
        due(x.falls(1), 2 | 4, "7 stands without 2");
        due(x.falls(2), 4, "another line for 7 stands in");
        due(x.falls(3), 8, "no one rests on it");
        due(x.falls(4), 16, "no one rests on it");
        due(x.falls(6), 64, "no one rests on it");
        due(x.falls(5), -2, "not right");
        due(x.falls(7), NONE, "no such line");
        for (int wild : WILD) {
            due(x.falls(wild), NONE, "no such line");
        }
        due(x.move(6, 0), 1, "move");
        due(x.falls(0), 1, "the other 3 stands in");
        due(x.right(), 127 - 64, "nothing happened");
        PrimeProofs y = with("small 2;small 3;pratt 7 base 3 by 2 1 3 1;lucas 13 with 1 2 by 2 1 7 1;");
        due(y.falls(2), 12, "what names it above falls");
    }

    private static void cost() {
        PrimeProofs x = with(TO31 + "pratt 1009 base 11 by 2 4 3 2 7 1;lucas 7 with 1 3 by 2 3;both 7 with 1 3 down 3 1 2 up;"
                + "part 3 by 2 1 2;both 7 with 1 3 down up 2 3;part 3 by;");
        // 1008 is 1111110000, 504 111111000, 336 101010000, 144 10010000.
        due(x.cost(11), 3 * (10 + 6 - 2) + (9 + 6 - 2) + (9 + 3 - 2) + (8 + 2 - 2), "PRATT");
        due(x.cost(12), 0, "LUCAS");
        due(x.cost(13), 3 + 1, "BOTH");
        due(x.cost(14), 1 + 0, "2 and 1");
        due(x.cost(15), 0, "BOTH without DOWN ROWS");
        due(x.cost(16), -2, "not right");
        due(x.cost(0), 0, "SMALL");
        due(x.cost(17), NONE, "no such line");
        for (int wild : WILD) {
            due(x.cost(wild), NONE, "no such line");
        }
        due(x.count(6), 42 + 13 + 10 + 8 + 4 + 1, "all");
    }

    private static void loose() {
        PrimeProofs x = with("small 2;small 3;pratt 7 base 3 by 2 1 3 1;part 7 by 3 1 7;part 3 by 2 1 2;"
                + "both 7 with 1 3 down 3 1 2 up 2 3;");
        // 3, 5 and 6 by 7 are no squares; 2, 3, 4 and 5 no cubes. 2 .. 999 is 142 times 7 numbers, and 2, 3, 4, 5.
        due(x.loose(2, 0), 142 * 3 + 2, "by 2");
        due(x.loose(2, 1), 142 * 4 + 4, "by 3");
        due(x.loose(4, 0), 333, "2 by 3");
        due(x.loose(5, 0), 572, "BOTH");
        due(x.loose(3, 0), -2, "not right");
        due(x.loose(3, 1), NONE, "no such row, be it right or not");
        due(x.loose(2, 2), NONE, "no such row");
        due(x.loose(0, 0), NONE, "no rows");
        due(x.loose(6, 0), NONE, "no such line");
        for (int wild : WILD) {
            due(x.loose(wild, 0), NONE, "no such line");
            due(x.loose(2, wild), NONE, "no such row");
        }
        spelled(x, 2, "pratt 7 base 3 by 2 1 3 1;");
        due(x.right(), 55, "nothing happened");
    }

    private static void shared() {
        PrimeProofs x = with("small 2;small 3;pratt 7 base 3 by 2 1 3 1;part 7 by 3 1 2;small 9;part 29 by 7 1 2;");
        due(x.shared(2, 3), 2, "3");
        due(x.shared(3, 2), 2, "3");
        due(x.shared(2, 2), 7, "all");
        due(x.shared(5, 2), 7, "one rests on the other");
        due(x.shared(0, 1), 0, "nothing");
        due(x.shared(0, 4), -2, "not right");
        due(x.shared(4, 0), -2, "not right");
        due(x.shared(4, 6), NONE, "no such line");
        due(x.shared(6, 4), NONE, "no such line");
        for (int wild : WILD) {
            due(x.shared(wild, 0), NONE, "no such line");
            due(x.shared(0, wild), NONE, "no such line");
        }
    }

    private static void spell() {
        String most = "both 1000000000 with 99 99 down" + " 1000000000 30 999".repeat(9) + " up" + " 1000000000 30".repeat(9) + ";";
        PrimeProofs x = with("small 10;pratt 999999999 base 17 by;lucas 305 with 10 20 by;" + most);
        spelled(x, 0, "small 10;");
        spelled(x, 1, "pratt 999999999 base 2 by;");
        spelled(x, 2, "lucas 305 with 10 20 by;");
        spelled(x, 3, most);
        due(x.spell(3, NONE), most.length(), "how many");
        due(x.spell(0, 8), ';', "the last");
        due(x.spell(0, 9), NONE, "behind the last");
        due(x.spell(0, -2), NONE, "ahead of the first");
        due(x.spell(4, NONE), NONE, "no such line");
        due(x.spell(4, 0), NONE, "no such line");
        due(x.spell(0, MAX), NONE, "no such sign");
        due(x.spell(0, MIN), NONE, "no such sign");
        for (int wild : WILD) {
            due(x.spell(wild, 0), NONE, "no such line");
        }
        PrimeProofs y = with("pratt 7 base 3 by 2 1 3 1;part 7 by;both 7 with 1 2 down up;");
        due(y.alter(0, false, 1, 2, 5), 3, "alter");
        spelled(y, 0, "pratt 7 base 3 by 2 1 3 1;");
        due(y.alter(0, false, 0, 2, 11), 3, "alter");
        spelled(y, 0, "pratt 7 base 11 by 2 1 3 1;");
        spelled(y, 1, "part 7 by;");
        spelled(y, 2, "both 7 with 1 2 down up;");
        due(y.cut(0, false, 0), 1, "cut");
        spelled(y, 0, "pratt 7 base 5 by 3 1;");
    }

    private static void proof() {
        PrimeProofs x = with("small 7;small 3;part 7 by 3 1 2;small 9;");
        due(x.proof(7), 0, "the least");
        due(x.set(0, 0, 8), 7, "set");
        due(x.proof(7), 2, "the next");
        due(x.proof(9), -2, "not right");
        due(x.proof(5), -2, "none");
        due(x.proof(1_000_000_000), -2, "none");
        due(x.proof(1), NONE, "no number");
        for (int wild : new int[] {MIN, -1, 0, 1_000_000_001, MAX}) {
            due(x.proof(wild), NONE, "no number");
        }
    }

    // ---- 25 to 41

    private static void primeAndOften() {
        PrimeProofs x = new PrimeProofs();
        due(x.prime(360, NONE), 3, "how many");
        due(x.prime(360, 0), 2, "the least");
        due(x.prime(360, 2), 5, "the greatest");
        due(x.prime(360, 3), NONE, "no such one");
        due(x.prime(360, -2), NONE, "no such one");
        due(x.prime(223092870, NONE), 9, "nine");
        due(x.prime(223092870, 8), 23, "the ninth");
        due(x.prime(2, 0), 2, "2");
        due(x.prime(999_999_937, 0), 999_999_937, "a prime");
        due(x.prime(999_002_449, NONE), 1, "the square of 31607");
        due(x.prime(999_002_449, 0), 31607, "the square of 31607");
        due(x.prime(999_950_884, NONE), 3, "the square of 2 times 97 times 163");
        due(x.prime(999_950_884, 1), 97, "the square of 2 times 97 times 163");
        due(x.prime(1_000_000_000, 1), 5, "1000000000");
        due(x.prime(1, NONE), NONE, "no number");
        due(x.prime(1_000_000_001, NONE), NONE, "no number");
        due(x.prime(MIN, 0), NONE, "no number");
        due(x.prime(6, MAX), NONE, "no such one");
        due(x.often(360, 2), 3, "2");
        due(x.often(360, 6), 2, "6");
        due(x.often(360, 7), 0, "7");
        due(x.often(360, 360), 1, "itself");
        due(x.often(536_870_912, 2), 29, "29 times");
        due(x.often(5, 1_000_000_000), 0, "more");
        due(x.often(1, 2), NONE, "no number");
        due(x.often(2, 1), NONE, "no number");
        due(x.often(2, 0), NONE, "no number");
        due(x.often(2, 1_000_000_001), NONE, "no number");
        due(x.often(1_000_000_001, 2), NONE, "no number");
        due(x.often(MIN, MIN), NONE, "no number");
    }

    private static void needsAndFewest() {
        PrimeProofs x = new PrimeProofs();
        due(x.needs(1009, 1), 30, "PRATT");
        due(x.needs(1009, 2), 20, "PART");
        due(x.needs(1009, 3), 3, "LUCAS");
        due(x.needs(1009, 4), 11, "BOTH");
        due(x.fewest(1009), 2, "PART and BOTH have two");
        due(x.needs(8191, 3), 1, "8192 is a power of 2");
        due(x.needs(8191, 4), 11, "BOTH of 8191");
        due(x.needs(8191, 2), 20, "PART of 8191");
        due(x.fewest(8191), 3, "LUCAS");
        due(x.fewest(3), 1, "all have one");
        due(x.fewest(65537), 1, "PRATT has one");
        due(x.needs(3, 4), 10, "one is enough");
        // 30 is 2 times 3 times 5.
        due(x.needs(31, 1), 30, "three");
        due(x.needs(31, 2), 20, "25 is less than 31");
        due(x.needs(31, 4), 11, "5 and 32");
        due(x.needs(2, 1), -2, "2");
        due(x.needs(9, 4), -2, "9");
        due(x.needs(7, 0), NONE, "no such sort");
        due(x.needs(7, 5), NONE, "no such sort");
        due(x.needs(9, 5), NONE, "no such sort");
        due(x.needs(1, 1), NONE, "no number");
        due(x.needs(1_000_000_001, 1), NONE, "no number");
        due(x.fewest(2), -2, "2");
        due(x.fewest(561), -2, "561");
        due(x.fewest(1), NONE, "no number");
        due(x.fewest(1_000_000_001), NONE, "no number");
        due(x.fewest(MIN), NONE, "no number");
        due(x.count(0), 0, "nothing came");
        // 1438 is 2 times 719.
        due(x.fewest(1439), 2, "719 is enough");
        int both = 0;
        for (int n = 2001; n < 2200; n += 2) {
            both = both == 0 && x.fewest(n) == 4 ? n : both;
        }
        due(both, 2113, "the first of which BOTH has fewest");
    }

    private static void nextAndPrimes() {
        PrimeProofs x = new PrimeProofs();
        due(x.next(0), 2, "0");
        due(x.next(1), 2, "1");
        due(x.next(2), 3, "2");
        due(x.next(7), 11, "7");
        due(x.next(113), 127, "113");
        due(x.next(436_273_009), 436_273_291, "a wide gap");
        due(x.next(999_999_936), 999_999_937, "the last");
        due(x.next(999_999_937), NONE, "beyond");
        due(x.next(-1), NONE, "below 0");
        due(x.next(MAX), NONE, "beyond");
        due(x.next(MIN), NONE, "below 0");
        due(x.primes(0, 1), 0, "none");
        due(x.primes(2, 2), 1, "2");
        due(x.primes(4, 4), 0, "4");
        due(x.primes(7, 11), 2, "7 and 11");
        due(x.primes(0, 999), 168, "up to 999");
        due(x.primes(1, 1000), 168, "up to 1000");
        due(x.primes(0, 1000), NONE, "too far");
        due(x.primes(999_999_001, 1_000_000_000), 45, "the last thousand");
        due(x.primes(999_999_937, 1_000_000_000), 1, "the last one");
        due(x.primes(999_999_937, 1_000_000_001), NONE, "too great");
        due(x.primes(5, 4), NONE, "less");
        due(x.primes(-1, 4), NONE, "below 0");
        due(x.primes(0, MAX), NONE, "too far");
        due(x.primes(MIN, MAX), NONE, "below 0");
        due(x.primes(MIN, MIN), NONE, "below 0");
        due(x.primes(MAX, MAX), NONE, "too great");
        due(x.primes(2047, 2047), 0, "2047 passes by 2");
        due(x.primes(25_326_001, 25_326_001), 0, "25326001 passes by 2, 3 and 5");
        due(x.primes(2_284_453, 2_284_453), 0, "2284453 passes by 2, 3 and 7");
        due(x.primes(746_331_041, 746_331_041), 0, "746331041 passes by 2, 5 and 7");
        due(x.primes(1_024_651, 1_024_651), 0, "1024651 passes by 3, 5 and 7");
    }

    private static void smoothAndBound() {
        PrimeProofs x = new PrimeProofs();
        due(x.smooth(360, 0), 1, "0");
        due(x.smooth(360, 1), 1, "1");
        due(x.smooth(360, 2), 8, "2");
        due(x.smooth(360, 4), 72, "4");
        due(x.smooth(360, 5), 360, "5");
        due(x.smooth(999_999_937, 999_999_936), 1, "a prime");
        due(x.smooth(999_999_937, 999_999_937), 999_999_937, "a prime");
        due(x.smooth(360, MAX), 360, "all");
        due(x.smooth(223092870, MAX), 223092870, "nine primes");
        due(x.smooth(360, -1), NONE, "below 0");
        due(x.smooth(1, 5), NONE, "no number");
        due(x.smooth(1_000_000_001, 5), NONE, "no number");
        due(x.smooth(MIN, MIN), NONE, "no number");
        due(x.bound(3), 2, "3");
        due(x.bound(4), 3, "4");
        due(x.bound(1009), 3, "144 is enough");
        due(x.bound(1439), 719, "719");
        due(x.bound(65537), 2, "65536");
        due(x.bound(16), 5, "3 times 3 is less than 16");
        due(x.bound(17), 2, "16");
        due(x.bound(999_999_937), 83, "a great prime");
        due(x.bound(1_000_000_000), 333_667, "a great number");
        due(x.bound(2), NONE, "2");
        due(x.bound(1), NONE, "1");
        due(x.bound(1_000_000_001), NONE, "no number");
        due(x.bound(MIN), NONE, "no number");
    }

    private static void chase() {
        PrimeProofs x = new PrimeProofs();
        due(x.chase(8051, 1), 97, "8051");
        due(x.chase(2, 1), 2, "2");
        due(x.chase(4, 1), 4, "n itself");
        due(x.chase(999_999_937, 1), -2, "1 always");
        due(x.chase(148_151, 1), 148_151, "the 999th time");
        due(x.chase(212_243, 1), 212_243, "the 1000th time");
        due(x.chase(132_851, 1), -2, "the 1001st time would be too late");
        due(x.chase(1_000_000_000, 99), 5, "1000000000");
        due(x.chase(15, 0), NONE, "c");
        due(x.chase(15, 100), NONE, "c");
        due(x.chase(15, MIN), NONE, "c");
        due(x.chase(1, 1), NONE, "no number");
        due(x.chase(1_000_000_001, 1), NONE, "no number");
        due(x.chase(MIN, 1), NONE, "no number");
    }

    private static void passesAndFools() {
        PrimeProofs x = new PrimeProofs();
        due(x.passes(2047, 2), 1, "2047 by 2");
        due(x.passes(2047, 3), 0, "2047 by 3");
        due(x.passes(561, 2), 0, "561 by 2");
        due(x.passes(561, 50), 1, "561 by 50");
        due(x.passes(25, 7), 1, "25 by 7");
        due(x.passes(3, 2), 1, "3 by 2");
        due(x.passes(999_999_937, 999), 1, "a prime");
        due(x.passes(9, 3), 0, "what is left may be 0");
        due(x.passes(5, 4), 1, "less than n");
        due(x.passes(5, 5), NONE, "not less than n");
        due(x.passes(2001, 1000), NONE, "a");
        due(x.passes(2001, 1), NONE, "a");
        due(x.passes(2001, MIN), NONE, "a");
        due(x.passes(2, 2), NONE, "2");
        due(x.passes(10, 3), NONE, "even");
        due(x.passes(1, 2), NONE, "no number");
        due(x.passes(1_000_000_001, 2), NONE, "no number");
        due(x.passes(-7, 2), NONE, "no number");
        due(x.passes(MAX, 2), NONE, "no number");
        due(x.fools(7, 0), 5, "all of 2 .. 6");
        due(x.fools(7, 1), 0, "by all");
        due(x.fools(3, 0), 1, "2");
        due(x.fools(25, 0), 3, "7, 18, 24");
        due(x.fools(25, 1), 2, "the least");
        due(x.fools(2047, 1), 3, "2047");
        due(x.fools(999, 1), 2, "999");
        due(x.fools(1009, 0), 998, "all");
        due(x.fools(997, 0), 995, "all of 2 .. 996");
        due(x.fools(999_999_937, 1), 0, "by all");
        due(x.fools(7, 2), NONE, "no such what");
        due(x.fools(7, -1), NONE, "no such what");
        due(x.fools(8, 0), NONE, "even");
        due(x.fools(2, 0), NONE, "2");
        due(x.fools(1, 0), NONE, "no number");
        due(x.fools(1_000_000_001, 0), NONE, "no number");
        due(x.fools(-9, 0), NONE, "no number");
    }

    private static void powerAndOrder() {
        PrimeProofs x = new PrimeProofs();
        due(x.power(3, 5, 100), 43, "243");
        due(x.power(0, 0, 7), 1, "0 to the 0");
        due(x.power(0, 5, 7), 0, "0");
        due(x.power(5, 0, 1), 0, "by 1");
        due(x.power(MAX, MAX, MAX), 0, "great ones");
        due(x.power(MAX - 1, 2, MAX), 1, "great ones");
        due(x.power(MAX - 1, MAX, MAX), MAX - 1, "great ones");
        due(x.power(2, 1_000_000_006, 1_000_000_007), 1, "a prime above");
        due(x.power(-1, 1, 1), NONE, "a");
        due(x.power(1, -1, 1), NONE, "k");
        due(x.power(1, 1, 0), NONE, "m");
        due(x.power(MIN, MIN, MIN), NONE, "all");
        due(x.order(2, 7), 3, "2 by 7");
        due(x.order(10, 17), 16, "10 by 17");
        due(x.order(3, 2), 1, "by 2");
        due(x.order(1, 1_000_000), 1, "1");
        due(x.order(3, 1_000_000), 50_000, "by 1000000");
        due(x.order(2, 999_983), 499_991, "by a prime");
        due(x.order(MAX, 9), 1, "MAX is 1 by 9");
        due(x.order(MAX - 1, 9), NOT, "MAX less 1 is a multiple of 9");
        due(x.order(MAX, 25), 20, "MAX is 22 by 25");
        due(x.order(999_982, 999_983), 2, "less 1");
        due(x.order(6, 9), -2, "3");
        due(x.order(0, 2), -2, "0");
        due(x.order(-1, 9), NONE, "below 0");
        due(x.order(-1, 1), NONE, "both");
        due(x.order(2, 1), NONE, "by 1");
        due(x.order(2, 1_000_001), NONE, "too great");
        due(x.order(MIN, MIN), NONE, "both");
    }

    private static void jacobi() {
        PrimeProofs x = new PrimeProofs();
        int[] by15 = {0, 1, 1, 0, 1, 0, 0, -1, 1, 0, 0, -1, 0, -1, -1};
        for (int a = -30; a < 45; a++) {
            due(x.jacobi(a, 15), by15[Math.floorMod(a, 15)], a + " by 15");
        }
        due(x.jacobi(0, 1), 1, "0 by 1");
        due(x.jacobi(MIN, 1), 1, "MIN by 1");
        due(x.jacobi(0, 9), 0, "0 by 9");
        due(x.jacobi(2, 9), 1, "2 by 9");
        due(x.jacobi(5, 21), 1, "5 by 21");
        due(x.jacobi(-1, MAX), -1, "less 1 by MAX");
        due(x.jacobi(MIN, MAX), -1, "less 2 to the 31");
        due(x.jacobi(MAX, MAX), 0, "MAX by MAX");
        due(x.jacobi(1, 0), -2, "by 0");
        due(x.jacobi(1, -1), -2, "below 1");
        due(x.jacobi(1, 8), -2, "even");
        due(x.jacobi(1, MIN), -2, "below 1");
        due(x.jacobi(MIN, -7), -2, "below 1");
    }

    private static void u() {
        PrimeProofs x = new PrimeProofs();
        int[] fibonacciLike = {0, 1, 3, 7, 15, 31, 63, 127};
        for (int k = 0; k < fibonacciLike.length; k++) {
            due(x.u(3, 2, k, 1000), fibonacciLike[k], "2 to the " + k + ", less 1");
        }
        int[] turns = {0, 1, 1, 0, -1, -1, 0, 1};
        for (int k = 0; k < turns.length; k++) {
            due(x.u(1, 1, k, 10), Math.floorMod(turns[k], 10), "P 1, Q 1, k " + k);
        }
        due(x.u(99, 99, 3, 1_000_000_000), 99 * 99 - 99, "the greatest P, Q");
        due(x.u(3, 2, 1_000_000, 2), 1, "by 2");
        due(x.u(3, 2, MAX, 1), 0, "by 1");
        due(x.u(3, 2, MAX, 1_000_000_000), x.power(2, MAX, 1_000_000_000) - 1, "the greatest k");
        due(x.u(99, 98, 5, 1_000_000_000), (98L * 98 * 98 * 98 * 98 - 1) / 97 % 1_000_000_000, "98 to the k, less 1, by 97");
        due(x.u(0, 1, 1, 5), NONE, "P");
        due(x.u(100, 1, 1, 5), NONE, "P");
        due(x.u(1, 0, 1, 5), NONE, "Q");
        due(x.u(1, 100, 1, 5), NONE, "Q");
        due(x.u(1, 1, -1, 5), NONE, "k");
        due(x.u(1, 1, 1, 0), NONE, "m");
        due(x.u(1, 1, 1, 1_000_000_001), NONE, "m");
        due(x.u(MIN, MIN, MIN, MIN), NONE, "all");
    }

    private static void units() {
        PrimeProofs x = new PrimeProofs();
        due(x.units(1), 1, "1");
        due(x.units(2), 1, "2");
        due(x.units(9), 6, "9");
        due(x.units(360), 96, "360");
        due(x.units(999_999_937), 999_999_936, "a prime");
        due(x.units(1_000_000_000), 400_000_000, "the greatest");
        due(x.units(223092870), 36_495_360, "nine primes");
        due(x.units(0), NONE, "0");
        due(x.units(-5), NONE, "below");
        due(x.units(1_000_000_001), NONE, "above");
        due(x.units(MIN), NONE, "below");
    }

    private static void count() {
        PrimeProofs x = with("small 2;small 3;pratt 7 base 3 by 2 1 3 1;part 29 by 7 1 2;both 101 with 1 1 down 2 1 3 up 3 1 7 1;small 99;");
        due(x.count(0), 6, "lines");
        due(x.count(1), 4, "right ones");
        due(x.count(2), 6, "rows");
        due(x.count(3), 0, "bytes");
        due(x.count(4), 29, "the greatest");
        due(x.count(5), 2, "the deepest");
        // 28 is 11100, 4 is 100.
        due(x.count(6), 9 + (5 + 3 - 2) + (3 + 1 - 2), "the cost");
        due(x.count(7), NONE, "no such what");
        feed(x, "abc");
        due(x.count(3), 3, "bytes");
        for (int wild : WILD) {
            due(x.count(wild), NONE, "no such what");
        }
        due(x.set(0, 0, 4), 2, "set");
        due(x.count(1), 1, "right ones");
        due(x.count(4), 3, "the greatest");
        due(x.count(5), 0, "the deepest");
        due(x.count(6), 0, "the cost");
        PrimeProofs y = with("both 7 with 1 1 down 3 1 2 up 2 3 5 1;");
        due(y.count(2), 3, "rows of the first line");
        due(y.count(4), 0, "none is right");
        PrimeProofs z = with("small 97;");
        due(z.count(4), 97, "the only one");
        due(z.count(5), 0, "the deepest");
    }

    private static void all(String name, Runnable... tests) {
        promise = name;
        for (Runnable test : tests) {
            test.run();
        }
    }

    public static void main(String[] args) {
        endWithin(300);
        all("1 A new object", PromiseTests::aNewObject);
        all("2 find", PromiseTests::find, PromiseTests::findDeeply, PromiseTests::findRarely,
                PromiseTests::findInAFullLedger);
        all("3 feed, 4 back", PromiseTests::feedAndBack);
        all("5 read", PromiseTests::readLines, PromiseTests::readFaults, PromiseTests::readInAFullLedger);
        all("Terms", PromiseTests::faults, PromiseTests::faultsUpward, PromiseTests::faultsInOrder);
        all("6 set", PromiseTests::set);
        all("7 alter", PromiseTests::alter);
        all("8 cut", PromiseTests::cut);
        all("9 move", PromiseTests::move);
        all("10 mend", PromiseTests::mend);
        all("11 prune", PromiseTests::prune);
        all("12 drop, 13 clear", PromiseTests::dropAndClear);
        all("14 line, 15 row", PromiseTests::lineAndRow);
        all("16 right", PromiseTests::right);
        all("17 rests, 18 deep", PromiseTests::restsAndDeep);
        all("19 falls", PromiseTests::falls);
        all("20 cost", PromiseTests::cost);
        all("21 loose", PromiseTests::loose);
        all("22 shared", PromiseTests::shared);
        all("23 spell", PromiseTests::spell);
        all("24 proof", PromiseTests::proof);
        all("25 prime, 26 often", PromiseTests::primeAndOften);
        all("27 needs, 28 fewest", PromiseTests::needsAndFewest);
        all("29 next, 33 primes", PromiseTests::nextAndPrimes);
        all("30 smooth, 31 bound", PromiseTests::smoothAndBound);
        all("32 chase", PromiseTests::chase);
        all("34 passes, 35 fools", PromiseTests::passesAndFools);
        all("36 power, 37 order", PromiseTests::powerAndOrder);
        all("38 jacobi", PromiseTests::jacobi);
        all("39 u", PromiseTests::u);
        all("40 units", PromiseTests::units);
        all("41 count", PromiseTests::count);
        end("all promises hold");
    }
}
