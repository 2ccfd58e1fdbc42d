/** The board: promises 31 to 35. */
public final class BoardTest {
    public static void main(String[] args) {
        lay();
        column();
        reduce();
        sum();
        fewest();
        fewestByOtherMeasures();
        Due.end();
    }

    // Promise 31
    private static void lay() {
        Due.are(Due.after("make 1 0; notch 0 0 5 5; notch 0 6 4 5; notch 0 11 3 5; notch 0 15 2 5; notch 0 18 1 5"), "lay 0 = 5;"
            + "column 1 -1 = 1; column 2 -1 = 1; column 3 -1 = 1; column 4 -1 = 1; column 5 -1 = 1; lay 0 = 5; column 5 -1 = 2;"
            + "sum = 26906; lay 1 = BEYOND; lay -1 = BEYOND; burn 0 = 0; lay 0 = 5; column 3 -1 = 3; about 0 5 = 5");
        // With a fault: 1, then 2 (wider than the one ahead), then 6, which has no column.
        Due.are(Due.after("make 1 0; notch 0 0 1 5; notch 0 2 2 5; notch 0 5 6 5"), "about 0 7 = -1; lay 0 = 2; column 1 -1 = 1;"
            + "column 2 -1 = 1; column 3 -1 = 0; column 4 -1 = 0; column 5 -1 = 0");
        Due.are(Due.after("make 1 0"), "lay 0 = 0; sum = 0");
    }

    // Promise 32
    private static void column() {
        Due.are(new TallyCourt(), "column 1 1000 = 0; column 1 1001 = BEYOND; column 1 -2 = BEYOND; column 1 -1 = 1000; column 1 0 = 1000;"
            + "column 1 -1 = 0; column 0 5 = BEYOND; column 6 5 = BEYOND; column -1 5 = BEYOND; column 5 7 = 0; column 5 -1 = 7; found 1 = 5");
        // Laying may lead beyond what can be set.
        Due.are(Due.after("make 1 0; notch 0 0 1 5; column 1 1000"), "lay 0 = 1; column 1 -1 = 1001");
    }

    // Promise 33
    private static void reduce() {
        Due.are(Due.after("column 1 25; column 2 18; column 3 4; column 4 9; column 5 1"), "sum = 24001; reduce = 5; sum = 24001;"
            + "column 1 -1 = 1; column 2 -1 = 0; column 3 -1 = 0; column 4 -1 = 0; column 5 -1 = 2; reduce = 0");
        // 7 does not go into 240, so column 2 stays; 12 no longer goes into 7 either way.
        Due.are(Due.after("measure 2 7; column 1 15; column 2 100"), "reduce = 2; column 1 -1 = 1; column 2 -1 = 102; column 3 -1 = 0");
        Due.are(Due.after("measure 1 5; column 1 100; column 2 20"), "reduce = 1; column 1 -1 = 100; column 2 -1 = 0; column 3 -1 = 1");
        // There is no column behind the fifth, whatever its worth goes into (9091 goes into 100001).
        Due.are(Due.after("column 5 1000"), "reduce = 0; column 5 -1 = 1000");
        Due.are(Due.after("measure 5 9091; column 5 1000"), "reduce = 0; column 5 -1 = 1000");
        Due.are(Due.after("column 1 12; column 2 19"), "reduce = 2; column 3 -1 = 1; column 2 -1 = 0; column 1 -1 = 0");
    }

    // Promise 34
    private static void sum() {
        Due.are(Due.after("column 1 3; column 2 3; column 3 3; column 4 3; column 5 3"), "sum = 40359; measure 1 2 = 1; sum = 40362");
        Due.are(Due.after("measure 5 100000; measure 4 99999; column 5 1000; column 4 1000"), "sum = 199999000");
    }

    // Promise 35
    private static void fewest() {
        Due.are(Due.after("column 1 500"), "fewest = 11; column 1 0 = 500; fewest = 0; column 1 11 = 0; fewest = 11; column 1 12 = 11;"
            + "fewest = 1; column 2 1000 = 0; sum = 12012; fewest = 2; column 5 1 = 0; fewest = BEYOND; column 2 666 = 1000;"
            + "column 1 8 = 12; sum = 20000; fewest = 24; column 1 9 = 8; sum = 20001; fewest = BEYOND");
        Due.are(Due.after("measure 1 3; measure 2 5; column 1 1"), "fewest = 1; column 1 3 = 1; fewest = 3; column 1 0 = 3; column 2 1 = 0; fewest = 1");
        Due.are(Due.after("measure 2 2; column 1 2"), "fewest = 1");
        Due.are(Due.after("measure 2 3; measure 3 4; column 1 6"), "fewest = 2");
        // Greed would take 25 first: 30 is 25 and five ones, or three tens.
        Due.are(Due.after("measure 2 10; measure 3 25; column 1 30"), "fewest = 3; column 1 40 = 30; fewest = 4; column 1 41 = 40; fewest = 5");
    }

    private static void fewestByOtherMeasures() {
        // A worth laid by one measure can be less than any way by a later one: the table must not outlive a measure.
        Due.are(Due.after("column 1 24"), "fewest = 2; measure 2 8 = 12; fewest = 3; measure 2 24 = 8; fewest = 1; measure 2 239 = 24;"
            + "fewest = 24; measure 1 2 = 1; sum = 48; fewest = 24");
        Due.are(Due.after("measure 1 2; measure 2 3; measure 3 4; measure 4 5; measure 5 6; column 1 1000; column 2 1000;"
            + "column 3 1000; column 4 1000; column 5 1000"), "sum = 20000; fewest = 3334; reduce = 0; sum = 20000");
        // What lies there is itself one way to lay its worth, so NONE wants a sum that has gone round: see BoardEdgesTest.
        Due.are(Due.after("measure 5 100000; column 5 1"), "fewest = BEYOND; column 5 0 = 1; fewest = 0");
    }
}
