/** Days and passings: the boundary cases of promises 20 to 23, with those of Terms 3. */
public final class PassingsEdgesTest {
    // Stock 0 of party 0, foil 1 of party 1, memo 2, piece 3.
    private static final String ALL_KINDS = "make 5 0; notch 0 0 2 5; split 0 1 9; memo 1 2; make 5 1;";
    private static final String PAIR = "make 5 0; notch 0 0 2 5; split 0 1 9;";
    private static final String MAX = "2147483647";
    private static final String MIN = "-2147483648";

    public static void main(String[] args) {
        day();
        pass();
        passFull();
        holder();
        passing();
        Edge.end(20, 23);
    }

    private static void day() {
        Edge.test(20, "least day", "", "day -1 = BEYOND; day " + MIN + " = BEYOND; day 0 = 0; count 5 = 0");
        Edge.test(20, "greatest day", "", "day 10000 = BEYOND; day " + MAX + " = BEYOND; day 9999 = 9999; count 5 = 9999;"
            + "day 10000 = BEYOND; day 9999 = 0");
        Edge.test(20, "ahead of the DAY", "day 50", "day 49 = BEYOND; day 0 = BEYOND; day -1 = BEYOND; day 50 = 0; day 51 = 1;"
            + "day 50 = BEYOND; count 5 = 51");
        Edge.test(20, "ahead of the last DAY", "day 9999", "day 9998 = BEYOND; day 0 = BEYOND; day 9999 = 0");
    }

    private static void pass() {
        Edge.test(21, "no such PIECE", ALL_KINDS, "pass -1 4 = BEYOND; pass 4 4 = BEYOND; pass " + MIN + " 4 = BEYOND; pass "
            + MAX + " 4 = BEYOND; pass 0 4 = 1");
        Edge.test(21, "least PARTY", ALL_KINDS + "pass 0 4", "pass 0 -1 = BEYOND; pass 0 " + MIN + " = BEYOND; pass 0 0 = 2;"
            + "about 0 2 = 0");
        Edge.test(21, "greatest PARTY", ALL_KINDS, "pass 0 8 = BEYOND; pass 0 " + MAX + " = BEYOND; pass 0 7 = 1; about 0 2 = 7");
        Edge.test(21, "KIND: no STOCK", ALL_KINDS, "pass 1 4 = KIND; pass 2 4 = KIND; pass 3 4 = KIND");
        Edge.test(21, "STATE: LOST", ALL_KINDS + "lose 0 1", "pass 0 4 = STATE; lose 0 0 = 1; pass 0 4 = 1");
        Edge.test(21, "STATE: BURNT", ALL_KINDS + "burn 0", "pass 0 4 = STATE; pass 0 0 = STATE");
        Edge.test(21, "STATE: it has that HOLDER", ALL_KINDS, "pass 0 0 = STATE; pass 0 1 = 1; pass 0 1 = STATE; pass 0 0 = 2;"
            + "pass 0 0 = STATE");
        Edge.test(21, "the HOLDER of the FOIL", PAIR, "count 7 = 1; pass 0 1 = 1; about 0 2 = 1; count 7 = 0; pass 0 2 = 2;"
            + "count 7 = 1");
        Edge.test(21, "a STOCK of no PAIR", PAIR + "burn 1", "pass 0 4 = 1");
        Edge.test(21, "BEYOND is asked ahead of KIND", ALL_KINDS, "pass 1 8 = BEYOND; pass 3 -1 = BEYOND");
        Edge.test(21, "KIND is asked ahead of STATE", ALL_KINDS + "burn 1; lose 3 1", "pass 1 4 = KIND; pass 1 1 = KIND;"
            + "pass 3 4 = KIND; pass 3 1 = KIND");
        Edge.test(21, "BEYOND is asked ahead of STATE", ALL_KINDS + "burn 0", "pass 0 8 = BEYOND; pass 0 -1 = BEYOND");
    }

    /** So many passings of stock 0; the last one to party number % 8. */
    private static String passings(int number) {
        StringBuilder calls = new StringBuilder();
        for (int i = 1; i <= number; i++) {
            calls.append("pass 0 ").append(i % 8).append(';');
        }
        return calls.toString();
    }

    private static void passFull() {
        Edge.test(21, "80 PASSINGS", ALL_KINDS + passings(78), "count 4 = 78; pass 0 1 = 79; pass 0 2 = 80; pass 0 3 = FULL;"
            + "about 0 2 = 2; count 4 = 80");
        Edge.test(21, "80 PASSINGS of all STOCKS together", PAIR + "make 6 0; notch 2 0 2 5; split 2 1 9;" + passings(79),
            "pass 2 5 = 80; pass 2 6 = FULL; pass 0 6 = FULL; about 2 2 = 5; passing 79 1 = 2");
        Edge.test(21, "80 PASSINGS ever: those of BURNT STOCKS count", PAIR + "make 6 0; notch 2 0 2 5; split 2 1 9;"
            + passings(80) + "burn 0", "pass 2 5 = FULL");
        Edge.test(21, "BEYOND, KIND and STATE are asked ahead of FULL", ALL_KINDS + passings(80),
            "pass 0 8 = BEYOND; pass 4 1 = BEYOND; pass 1 4 = KIND; pass 0 0 = STATE; pass 0 1 = FULL; lose 0 1 = 1;"
            + "pass 0 1 = STATE");
    }

    private static void holder() {
        Edge.test(22, "no such PIECE", ALL_KINDS, "holder -1 0 = BEYOND; holder 4 0 = BEYOND; holder " + MIN
            + " 0 = BEYOND; holder " + MAX + " 0 = BEYOND; holder 3 0 = 1");
        Edge.test(22, "least day", ALL_KINDS, "holder 0 -1 = BEYOND; holder 0 " + MIN + " = BEYOND; holder 0 0 = 0");
        Edge.test(22, "greatest day", ALL_KINDS + "pass 0 4", "holder 0 10000 = BEYOND; holder 0 " + MAX
            + " = BEYOND; holder 0 9999 = 4");
        Edge.test(22, "the day of a PASSING and the one ahead of it", PAIR + "day 10; pass 0 4", "holder 0 9 = 0; holder 0 10 = 4;"
            + "holder 0 11 = 4");
        Edge.test(22, "a PASSING on day 0", PAIR + "pass 0 4", "holder 0 0 = 4");
        Edge.test(22, "a PASSING on the last day", PAIR + "day 9999; pass 0 4", "holder 0 9998 = 0; holder 0 9999 = 4");
        Edge.test(22, "of several on one day the last", PAIR + "day 10; pass 0 4; pass 0 5; pass 0 6",
            "holder 0 9 = 0; holder 0 10 = 6");
        Edge.test(22, "its first one, if it was made later", "day 100;" + PAIR + "pass 0 4", "holder 0 0 = 0; holder 0 99 = 0;"
            + "holder 0 100 = 4; holder 1 0 = 1");
        Edge.test(22, "its first one: of the STOCK that a payment leaves", PAIR + "day 5; pass 0 4; day 8; pay 0 4",
            "holder 2 0 = 4; holder 2 9999 = 4; holder 3 0 = 1; holder 0 0 = 0; holder 0 5 = 4");
        Edge.test(22, "no PASSINGS at all", ALL_KINDS, "holder 0 9999 = 0; holder 1 9999 = 1; holder 2 9999 = 2;"
            + "holder 3 9999 = 1");
        Edge.test(22, "PASSINGS of another STOCK", PAIR + "make 6 3; notch 2 0 2 5; split 2 1 9; pass 0 5",
            "holder 2 0 = 3; holder 0 0 = 5");
        Edge.test(22, "a day ahead of the DAY, and one behind it", PAIR + "day 10; pass 0 4; day 20; pass 0 5",
            "holder 0 15 = 4; holder 0 25 = 5");
        Edge.test(22, "LOST and BURNT ones too", PAIR + "day 10; pass 0 4; lose 0 1; burn 1", "holder 0 9 = 0; holder 0 10 = 4;"
            + "holder 1 10 = 1; burn 0 = 1; holder 0 10 = 4");
        Edge.test(22, "all 80 PASSINGS", PAIR + "day 1;" + passings(79) + "day 2; pass 0 3", "holder 0 0 = 0; holder 0 1 = 7;"
            + "holder 0 2 = 3");
    }

    private static void passing() {
        Edge.test(23, "there is none yet", PAIR, "passing 0 0 = BEYOND; passing -1 0 = BEYOND");
        Edge.test(23, "least i", PAIR + "pass 0 4", "passing -1 0 = BEYOND; passing " + MIN + " 0 = BEYOND; passing 0 3 = 4");
        Edge.test(23, "greatest i", PAIR + "pass 0 4; pass 0 5", "passing 2 0 = BEYOND; passing 80 0 = BEYOND; passing " + MAX
            + " 0 = BEYOND; passing 1 3 = 5; passing 1 2 = 4");
        Edge.test(23, "the last of 80", PAIR + passings(79) + "day 9999; pass 0 5", "passing 80 0 = BEYOND; passing 79 0 = 9999;"
            + "passing 79 1 = 0; passing 79 2 = 7; passing 79 3 = 5; passing 78 0 = 0");
        Edge.test(23, "least what", PAIR + "day 6; pass 0 4", "passing 0 -1 = BEYOND; passing 0 " + MIN
            + " = BEYOND; passing 0 0 = 6; passing 0 1 = 0");
        Edge.test(23, "greatest what", PAIR + "pass 0 4", "passing 0 4 = BEYOND; passing 0 " + MAX + " = BEYOND; passing 0 3 = 4;"
            + "passing 0 2 = 0");
        Edge.test(23, "STOCKS: the first and the last PIECE that can be one", PAIR + Sticks.filler(26)
            + "make 6 3; notch 28 0 2 5; split 28 1 9; day 7; pass 28 0; pass 0 3", "passing 0 0 = 7; passing 0 1 = 28;"
            + "passing 0 2 = 3; passing 0 3 = 0; passing 1 1 = 0; passing 1 2 = 0; passing 1 3 = 3; holder 28 6 = 3;"
            + "holder 28 7 = 0; holder 0 7 = 3");
        Edge.test(23, "a refused PASSING leaves none", PAIR, "pass 0 0 = STATE; passing 0 0 = BEYOND; count 4 = 0");
    }
}
