/** Days and passings: promises 20 to 23. */
public final class PassingsTest {
    private static final String ONE = "make 5 0; notch 0 0 2 5; split 0 1 9;";

    public static void main(String[] args) {
        day();
        pass();
        passFull();
        holder();
        passing();
        Due.end();
    }

    // Promise 20
    private static void day() {
        Due.are(new TallyCourt(), "day 0 = 0; day 5 = 5; day 5 = 0; day 4 = BEYOND; day -1 = BEYOND; day 10000 = BEYOND;"
            + "count 5 = 5; day 9999 = 9994; day 9999 = 0; day 9998 = BEYOND; day 10000 = BEYOND; count 5 = 9999");
    }

    // Promise 21
    private static void pass() {
        Due.are(Due.after(ONE), "pass 0 4 = 1; about 0 2 = 4; about 1 2 = 1; pass 0 4 = STATE; pass 0 1 = 2; count 7 = 0;"
            + "pass 1 3 = KIND; pass 2 3 = BEYOND; pass -1 3 = BEYOND; pass 0 8 = BEYOND; pass 0 -1 = BEYOND;"
            + "pass 1 8 = BEYOND; make 1 1 = 2; pass 2 3 = KIND; lose 0 1 = 1; pass 0 3 = STATE; lose 0 0 = 1; pass 0 3 = 3;"
            + "burn 0 = 0; pass 0 5 = STATE; count 4 = 3; about 0 2 = 3; memo 1 4 = 3; pass 3 5 = KIND");
    }

    private static void passFull() {
        TallyCourt court = Due.after(ONE);
        for (int i = 1; i <= 80; i++) {
            Due.is(court, "pass 0 " + (i % 8), i);
        }
        Due.are(court, "pass 0 1 = FULL; pass 0 0 = STATE; pass 1 1 = KIND; pass 9 1 = BEYOND; count 4 = 80; about 0 2 = 0;"
            + "passing 79 3 = 0; passing 80 0 = BEYOND; found 4 = 1");
    }

    // Promise 22
    private static void holder() {
        Due.are(Due.after("day 10; " + ONE + "pass 0 4; day 20; pass 0 5; pass 0 6; day 30; pass 0 0"), "holder 0 0 = 0;"
            + "holder 0 9 = 0; holder 0 10 = 4; holder 0 19 = 4; holder 0 20 = 6; holder 0 29 = 6; holder 0 30 = 0;"
            + "holder 0 9999 = 0; holder 1 0 = 1; holder 1 9999 = 1; holder 0 -1 = BEYOND; holder 0 10000 = BEYOND;"
            + "holder 2 5 = BEYOND; holder -1 5 = BEYOND; burn 0 = 0; holder 0 20 = 6");
        // A stock that a payment leaves starts anew with the holder that there was.
        Due.are(Due.after(ONE + "pass 0 4; day 5; pay 0 4"), "count 0 = 4; holder 2 0 = 4; holder 2 9 = 4; holder 3 0 = 1");
    }

    // Promise 23
    private static void passing() {
        Due.are(Due.after(ONE + "make 5 2; notch 2 0 2 5; split 2 1 9; day 3; pass 2 7; day 8; pass 0 6"), "passing 0 0 = 3;"
            + "passing 0 1 = 2; passing 0 2 = 2; passing 0 3 = 7; passing 1 0 = 8; passing 1 1 = 0; passing 1 2 = 0;"
            + "passing 1 3 = 6; passing 2 0 = BEYOND; passing -1 0 = BEYOND; passing 0 4 = BEYOND; passing 0 -1 = BEYOND");
        Due.are(new TallyCourt(), "passing 0 0 = BEYOND");
    }
}
