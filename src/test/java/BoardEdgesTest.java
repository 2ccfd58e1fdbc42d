/** The board: the boundary cases of promises 31 to 35, with those of Terms 5. */
public final class BoardEdgesTest {
    private static final String MAX = "2147483647";
    private static final String MIN = "-2147483648";
    // Two counters of column 4 go for one of column 5, worth as much as any can be.
    private static final String GREAT_WORTHS = "measure 5 100000; measure 4 50000;";

    public static void main(String[] args) {
        lay();
        column();
        reduceAtRest();
        reduce();
        sum();
        fewest();
        fewestBehindARound();
        Edge.end(31, 35);
    }

    private static void lay() {
        Edge.test(31, "no such PIECE", "make 1 0; notch 0 0 1 5", "lay -1 = BEYOND; lay 1 = BEYOND; lay 30 = BEYOND; lay " + MIN
            + " = BEYOND; lay " + MAX + " = BEYOND; lay 0 = 1");
        Edge.test(31, "no CUTS", "make 1 0; notch 0 0 40 1", "lay 0 = 0; sum = 0");
        Edge.test(31, "each WIDTH", "make 1 0;" + Sticks.cuts(0, 5, 4, 3, 2, 1), "lay 0 = 5; column 1 -1 = 1; column 2 -1 = 1;"
            + "column 3 -1 = 1; column 4 -1 = 1; column 5 -1 = 1; sum = 13453");
        Edge.test(31, "with a FAULT: WIDTH 6 has no COLUMN, 5 has", "make 1 0;" + Sticks.cuts(0, 6, 5),
            "lay 0 = 1; column 5 -1 = 1; sum = 12000");
        Edge.test(31, "with a FAULT: one CUT of all PLACES", "make 1 0; notch 0 0 40 5", "lay 0 = 0; sum = 0");
        Edge.test(31, "with a FAULT: wider than the CUT ahead", "make 1 0;" + Sticks.cuts(0, 1, 2, 7, 3),
            "lay 0 = 3; column 1 -1 = 1; column 2 -1 = 1; column 3 -1 = 1");
        Edge.test(31, "with a FAULT: the tenth, and all of the most CUTS", "make 1 0;" + Sticks.cuts(0, Sticks.alike(20, 1)),
            "about 0 6 = 18; lay 0 = 20; column 1 -1 = 20");
        Edge.test(31, "COLUMNS may go beyond what column() can set", "make 1 0; notch 0 0 1 5; column 1 1000",
            "lay 0 = 1; column 1 -1 = 1001; lay 0 = 1; column 1 1000 = 1002");
        Edge.test(31, "the CUTS of that PIECE, not of one that was asked for later", "make 1 0; notch 0 0 2 5; make 1 0;"
            + Sticks.cuts(1, 5, 1), "lay 0 = 1; column 2 -1 = 1; column 5 -1 = 0; lay 1 = 2; lay 0 = 1; column 2 -1 = 2;"
            + "column 5 -1 = 1");
        Edge.test(31, "any KIND and state", "make 1 0; notch 0 0 2 5; split 0 1 9; memo 1 2; lose 0 1; burn 1",
            "lay 0 = 1; lay 1 = 1; lay 2 = 1; column 2 -1 = 3; about 0 5 = 1");
    }

    private static void column() {
        Edge.test(32, "least width", "column 1 7", "column 0 5 = BEYOND; column -1 5 = BEYOND; column " + MIN
            + " 5 = BEYOND; column 0 -1 = BEYOND; column 1 5 = 7");
        Edge.test(32, "greatest width", "column 5 7", "column 6 5 = BEYOND; column " + MAX + " 5 = BEYOND; column 6 -1 = BEYOND;"
            + "column 5 5 = 7; column 5 -1 = 5");
        Edge.test(32, "-1: they stay; less is none", "column 2 7", "column 2 -2 = BEYOND; column 2 " + MIN
            + " = BEYOND; column 2 -1 = 7; column 2 -1 = 7");
        Edge.test(32, "0: they go", "column 2 7", "column 2 0 = 7; column 2 -1 = 0; column 2 0 = 0");
        Edge.test(32, "greatest n", "column 2 7", "column 2 1001 = BEYOND; column 2 " + MAX + " = BEYOND; column 2 1000 = 7;"
            + "column 2 1001 = BEYOND; column 2 -1 = 1000");
        Edge.test(32, "no other COLUMN", "", "column 3 9 = 0; column 2 -1 = 0; column 4 -1 = 0");
    }

    private static void reduceAtRest() {
        Edge.test(33, "an empty BOARD", "", "reduce = 0; sum = 0");
        Edge.test(33, "one less than go for one", "column 1 11; column 2 19; column 3 4; column 4 9; column 5 1000",
            "reduce = 0; column 1 -1 = 11; column 2 -1 = 19; column 3 -1 = 4; column 4 -1 = 9; column 5 -1 = 1000");
        Edge.test(33, "a WORTH that leaves a rest, 1", "measure 1 5; column 1 1000", "reduce = 0; column 1 -1 = 1000;"
            + "column 2 -1 = 0");
        Edge.test(33, "a WORTH that leaves a rest, 2", "measure 2 7; column 2 1000", "reduce = 0; column 2 -1 = 1000;"
            + "column 3 -1 = 0");
        Edge.test(33, "a WORTH that leaves a rest, 3", "measure 3 241; column 3 1000", "reduce = 0; column 3 -1 = 1000;"
            + "column 4 -1 = 0");
        Edge.test(33, "a WORTH that leaves a rest, 4", "measure 4 1199; column 4 1000", "reduce = 0; column 4 -1 = 1000;"
            + "column 5 -1 = 0");
        Edge.test(33, "a WORTH greater than half of the next", "measure 4 6001; column 4 1000",
            "reduce = 0; measure 4 6000 = 6001; reduce = 500; column 4 -1 = 0; column 5 -1 = 500");
        Edge.test(33, "COLUMN 5 has no next one", "column 5 1000", "reduce = 0; column 5 -1 = 1000; measure 5 100000 = 12000;"
            + "reduce = 0; column 5 -1 = 1000");
        // 9091 goes 11 times into 100001, the first worth that there can't be.
        Edge.test(33, "COLUMN 5 has no next one, whatever it goes into", "measure 5 9091; column 5 1000",
            "reduce = 0; column 5 -1 = 1000");
    }

    private static void reduce() {
        Edge.test(33, "as many as go for one, 1", "column 1 12", "reduce = 1; column 1 -1 = 0; column 2 -1 = 1");
        Edge.test(33, "one more, and one less than two times, 1", "column 1 13", "reduce = 1; column 1 -1 = 1; column 1 23 = 1;"
            + "reduce = 1; column 1 -1 = 11; column 1 24 = 11; reduce = 2; column 1 -1 = 0; column 2 -1 = 4");
        Edge.test(33, "as many as go for one, 2", "column 2 20", "reduce = 1; column 2 -1 = 0; column 3 -1 = 1");
        Edge.test(33, "as many as go for one, 3", "column 3 5", "reduce = 1; column 3 -1 = 0; column 4 -1 = 1");
        Edge.test(33, "as many as go for one, 4", "column 4 10", "reduce = 1; column 4 -1 = 0; column 5 -1 = 1");
        Edge.test(33, "in turn: each makes up the next", "column 1 12; column 2 19; column 3 4; column 4 9",
            "reduce = 4; column 1 -1 = 0; column 2 -1 = 0; column 3 -1 = 0; column 4 -1 = 0; column 5 -1 = 1; reduce = 0");
        Edge.test(33, "in turn: behind one that leaves a rest", "measure 1 5; column 1 1000; column 2 20",
            "reduce = 1; column 1 -1 = 1000; column 3 -1 = 1");
        Edge.test(33, "the fewest that go for one", "measure 2 2; column 1 1", "reduce = 0; column 1 2 = 1; reduce = 1;"
            + "column 1 3 = 0; reduce = 1; column 1 -1 = 1; column 2 -1 = 2");
        Edge.test(33, "the full BOARD", "column 1 1000; column 2 1000; column 3 1000; column 4 1000; column 5 1000",
            "sum = 13453000; reduce = 468; column 1 -1 = 4; column 2 -1 = 3; column 3 -1 = 4; column 4 -1 = 0; column 5 -1 = 1121;"
            + "sum = 13453000");
        Edge.test(33, "COLUMNS may go beyond what column() can set", "measure 2 7; column 1 7; column 2 1000",
            "reduce = 1; column 2 -1 = 1001; column 1 -1 = 0");
    }

    /** So many counters in column 5, by reducing; the great worths are set. */
    private static String columnFive(int counters) {
        return "column 4 1000;reduce;".repeat(counters / 500) + "column 4 " + 2 * (counters % 500) + ";reduce;";
    }

    private static void sum() {
        Edge.test(34, "nothing, and one", "", "sum = 0; column 1 1 = 0; sum = 1");
        Edge.test(34, "each COLUMN by its WORTH", "", "column 2 1 = 0; sum = 12; column 3 1 = 0; sum = 252; column 4 1 = 0;"
            + "sum = 1452; column 5 1 = 0; sum = 13452; measure 5 13000 = 12000; sum = 14452");
        Edge.test(34, "five full COLUMNS at the greatest WORTHS", "measure 5 100000; measure 4 99999; measure 3 99998;"
            + "measure 2 99997; measure 1 99996; column 1 1000; column 2 1000; column 3 1000; column 4 1000; column 5 1000",
            "sum = 499990000");
        Edge.test(34, "the greatest int, and round", GREAT_WORTHS + columnFive(21474) + "column 4 1; column 3 140; column 2 3;"
            + "column 1 11", "column 5 -1 = 21474; sum = 2147483647; column 1 12 = 11; sum = -2147483648; column 1 13 = 12;"
            + "sum = -2147483647; column 1 0 = 13; sum = 2147483636");
        Edge.test(34, "all the way round", GREAT_WORTHS + columnFive(42949) + "column 4 1; column 3 72; column 2 1; column 1 3",
            "column 5 -1 = 42949; sum = -1; column 1 4 = 3; sum = 0; column 1 5 = 4; sum = 1");
    }

    private static void fewest() {
        Edge.test(35, "an empty BOARD", "", "fewest = 0");
        Edge.test(35, "the least worth", "column 1 1", "fewest = 1");
        Edge.test(35, "sum() is 20000, and above", "column 4 16; column 3 3; column 2 6; column 1 8", "sum = 20000; fewest = 24;"
            + "column 1 9 = 8; sum = 20001; fewest = BEYOND; column 1 7 = 9; sum = 19999; fewest = 23");
        Edge.test(35, "sum() is far above", "column 5 1000", "fewest = BEYOND; column 5 2 = 1000; fewest = BEYOND; column 5 1 = 2;"
            + "fewest = 1");
        Edge.test(35, "one WORTH is all of it", "measure 5 20000; column 5 1", "fewest = 1; measure 5 20001 = 20000;"
            + "fewest = BEYOND");
        Edge.test(35, "any number of each", "measure 2 239; measure 1 20; column 1 1000", "sum = 20000; fewest = 14;"
            + "measure 5 100000 = 12000; measure 4 99999 = 1200; measure 3 99998 = 240; measure 2 99997 = 239; fewest = 1000");
        Edge.test(35, "the greedy way is not the fewest", "measure 2 10; measure 3 25; column 1 30",
            "fewest = 3; column 1 29 = 30; fewest = 5; column 1 24 = 29; fewest = 6; column 1 25 = 24; fewest = 1");
        Edge.test(35, "the greedy way is worse by one", "measure 2 3; measure 3 4; column 1 6", "fewest = 2; column 1 5 = 6;"
            + "fewest = 2; column 1 7 = 5; fewest = 2; column 1 10 = 7; fewest = 3");
        Edge.test(35, "the COUNTERS stay", "column 1 24", "fewest = 2; column 1 -1 = 24; column 2 -1 = 0");
        Edge.test(35, "after another measure", "column 1 24", "fewest = 2; measure 2 8 = 12; fewest = 3; measure 2 25 = 8;"
            + "fewest = 24; measure 2 24 = 25; fewest = 1; measure 2 0 = BEYOND; fewest = 1");
        Edge.test(35, "a lesser worth after a greater one, and back", "column 1 1000", "fewest = 11; column 1 23 = 1000;"
            + "fewest = 12; column 1 1000 = 23; fewest = 11");
    }

    /** Only a sum that goes round can be below 0, or a worth that can't be laid. */
    private static void fewestBehindARound() {
        Edge.test(35, "sum() is below 0: the least int", GREAT_WORTHS + columnFive(21474) + "column 4 1; column 3 140; column 2 3;"
            + "column 1 11", "fewest = BEYOND; column 1 12 = 11; sum = -2147483648; fewest = BEYOND");
        Edge.test(35, "sum() is below 0: -1, then 0 and 1", GREAT_WORTHS + columnFive(42949) + "column 4 1; column 3 72;"
            + "column 2 1; column 1 3", "sum = -1; fewest = BEYOND; column 1 4 = 3; sum = 0; fewest = 0; column 1 5 = 4;"
            + "fewest = 1; column 1 16 = 5; sum = 12; fewest = 1");
        String oddWorths = "measure 1 3; measure 2 5; measure 3 1000;" + GREAT_WORTHS + columnFive(42949)
            + "column 4 1; column 3 17; column 1 99;";
        Edge.test(35, "NONE: 1, 2 and 4 can't be laid by 3 and 5", oddWorths, "sum = 1; fewest = NONE; column 1 100 = 99; sum = 4;"
            + "fewest = NONE; column 1 97 = 100; column 2 1 = 0; sum = 0; fewest = 0; column 1 98 = 97; sum = 3; fewest = 1;"
            + "column 1 96 = 98; column 2 2 = 1; sum = 2; fewest = NONE; column 1 97 = 96; sum = 5; fewest = 1");
        Edge.test(35, "NONE: 7 is the last that can't, 8 can", oddWorths, "column 1 101 = 99; sum = 7; fewest = NONE;"
            + "column 1 99 = 101; column 2 1 = 0; sum = 6; fewest = 2; column 2 0 = 1; column 1 103 = 99; sum = 13; fewest = 3;"
            + "column 1 98 = 103; column 2 2 = 0; sum = 8; fewest = 2");
        Edge.test(35, "BEYOND behind a round: 20000, and above", oddWorths + "column 3 36", "column 1 432 = 99; sum = 20000;"
            + "fewest = 20; column 1 429 = 432; column 2 2 = 0; sum = 20001; fewest = BEYOND; column 1 430 = 429; column 2 1 = 2;"
            + "sum = 19999; fewest = 220");
    }
}
