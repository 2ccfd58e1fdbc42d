/** What is told: promises 36 to 39. */
public final class ToldTest {
    private static final String TWO = "make 5 0; notch 0 0 2 5; split 0 1 9; make 6 0; notch 2 0 2 5; split 2 1 9;";

    public static void main(String[] args) {
        tell();
        check();
        count();
        found();
        Due.end();
    }

    // Promise 36
    private static void tell() {
        TallyCourt court = new TallyCourt();
        for (int i = 1; i <= 30; i++) {
            Due.is(court, "tell " + (i % 2 == 0 ? -2147483648 : 2147483647), i);
        }
        Due.are(court, "tell 1 = FULL; count 6 = 30; found 4 = 1; check = 99; count 6 = 0; tell 1 = 1");
    }

    // Promise 37
    private static void check() {
        Due.are(Due.after(TWO), "check = 1; tell 1 = 1; check = 2; tell 1 = 1; tell 3 = 2; check = 0; count 6 = 0; check = 1;"
            + "tell 1 = 1; tell 3 = 2; tell 5 = 3; check = 99; count 6 = 0; tell 3 = 1; tell 1 = 2; check = 1; tell 1 = 1; tell 1 = 2;"
            + "check = 2; count 6 = 0; tell 0 = 1; tell 0 = 2; tell 0 = 3; tell 0 = 4; check = 1; lose 0 1 = 1; tell 3 = 1; check = 0;"
            + "tell 1 = 1; tell 3 = 2; check = 1; tell 3 = 1; tell 3 = 2; check = 99; lose 2 1 = 1; check = 0; tell 7 = 1; check = 99");
        // By numbers of stocks, not of foils.
        Due.are(Due.after("make 5 0; notch 0 0 2 5; split 0 1 9; make 5 0; notch 2 0 2 5; split 2 1 9; notch 3 0 2 6; notch 2 0 2 4"),
            "tell 3 = 1; tell 1 = 2; check = 0");
    }

    // Promise 38
    private static void count() {
        Due.are(Due.after(TWO + "make 1 1; lose 4 1; burn 3; pass 0 4; pass 0 5; day 44; tell 9"), "count 0 = 5; count 1 = 3; count 2 = 1;"
            + "count 3 = 1; count 4 = 2; count 5 = 44; count 6 = 1; count 7 = 1; count 8 = BEYOND; count -1 = BEYOND; found 1 = 2");
    }

    // Promise 39
    private static void found() {
        TallyCourt court = Due.after(TWO);
        Due.are(court, "found 1 = 0; found 0 = BEYOND; found 1 = 1; found 6 = BEYOND; found 1 = 2; found -1 = BEYOND; found 1 = 3;"
            + "ring 0 = NONE; found 2 = 1; lose 0 0 = STATE; split 0 0 0 = KIND; found 3 = 1; found 5 = 1; found 4 = 0; found 1 = 3");
    }
}
