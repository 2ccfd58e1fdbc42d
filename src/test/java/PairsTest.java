/** Pairs: promises 15 to 19. */
public final class PairsTest {
    // Three splits of one grain and profile: stocks 0, 2, 4 with foils 1, 3, 5.
    private static final String THREE_ALIKE = "make 5 0; notch 0 0 2 5; split 0 1 10; make 5 2; notch 2 0 2 5;"
        + "split 2 3 20; make 5 4; notch 4 0 2 5; split 4 5 30;";

    public static void main(String[] args) {
        slack();
        apart();
        pairs();
        mostBeforeLeast();
        stocksOneBehindTheOther();
        leastStockFirst();
        other();
        raised();
        raisedByLeastFoilAndFirstCut();
        memosStayOut();
        Due.end();
    }

    // Promise 15
    private static void slack() {
        Due.are(new TallyCourt(), "slack 0 = 1; slack 3 = 0; slack 4 = BEYOND; slack -1 = BEYOND; slack 2 = 3; slack 1 = 2");
        Due.are(Due.after("make 5 0; notch 0 0 2 5; split 0 1 9; wear 1 3"), "pairs = 0; slack 3 = 1; pairs = 1;"
            + "slack 2 = 3; pairs = 0; slack 0 = 2; notch 1 0 2 5 = 12; pairs = 1; notch 1 1 1 4 = 12; pairs = 0");
    }

    // Promise 16
    private static void apart() {
        String two = "make 5 0; notch 0 0 2 5; split 0 1 9; memo 1 2; make 6 0; notch 3 0 2 5; split 3 1 9;";
        Due.are(Due.after(two), "apart 0 1 = 40; apart 0 2 = 40; apart 0 4 = -1; apart 3 4 = 40; apart 3 1 = -1;"
            + "notch 0 39 1 2 = 13; apart 0 1 = 39; apart 0 4 = 39; notch 0 39 1 1 = 12; apart 0 1 = 40;"
            + "notch 1 1 1 7 = 12; apart 0 1 = 1; notch 1 0 1 3 = 12; apart 0 1 = 0; notch 1 0 1 7 = 12; apart 0 1 = 0;"
            + "burn 0 = 0; lose 2 1 = 1; apart 0 2 = 40");
        Due.are(Due.after(two), "apart 1 0 = KIND; apart 0 0 = KIND; apart 1 1 = KIND; apart 0 3 = KIND; apart 2 1 = KIND;"
            + "apart 5 1 = BEYOND; apart 0 5 = BEYOND; apart -1 1 = BEYOND; apart 0 -1 = BEYOND; apart 1 9 = BEYOND;"
            + "make 1 1 = 5; apart 5 1 = KIND; apart 0 5 = KIND; found 5 = 7; found 1 = 5");
    }

    // Promise 17
    private static void pairs() {
        Due.are(Due.after(THREE_ALIKE), "pairs = 3; lose 0 1 = 1; pairs = 2; lose 1 1 = 1; pairs = 2; burn 3 = 0;"
            + "pairs = 1; burn 5 = 0; pairs = 0; lose 0 0 = 1; pairs = 0; lose 1 0 = 1; pairs = 1");
        Due.are(Due.after(THREE_ALIKE), "other 0 = 1; other 2 = 3; other 4 = 5; burn 1 = 0; other 0 = 3; other 2 = 5;"
            + "other 4 = NONE; other 3 = 0; other 5 = 2; other 1 = NONE; burn 0 = 0; other 2 = 3; other 4 = 5");
    }

    // Stock 0 joins foils 1 and 3, stock 2 joins foil 1 alone: the most pairs want 0 with 3.
    private static void mostBeforeLeast() {
        TallyCourt court = Due.after("make 5 0; notch 0 0 2 5; split 0 1 9; make 5 0; notch 2 0 2 5; split 2 1 9;");
        Due.are(court, "notch 3 0 2 6 = 12; notch 2 0 2 4 = 12; apart 0 1 = 40; apart 0 3 = 40; apart 2 1 = 40;"
            + "apart 2 3 = 0; pairs = 2; other 0 = 3; other 2 = 1; other 1 = 2; other 3 = 0");
    }

    // The same with stocks 0 and 1 one behind the other; foils 2 and 3.
    private static void stocksOneBehindTheOther() {
        TallyCourt court = Due.after("make 5 0; make 5 0; notch 0 0 2 5; notch 1 0 2 5; split 0 1 9; split 1 1 9;");
        Due.are(court, "other 0 = 2; other 1 = 3; notch 3 0 2 6 = 12; notch 1 0 2 4 = 12; pairs = 2; other 0 = 3; other 1 = 2");
    }

    // Stocks 0, 2 both join foil 3 alone; stock 0 comes first, though 3 came with 2.
    private static void leastStockFirst() {
        TallyCourt court = Due.after(THREE_ALIKE + "lose 1 1; lose 5 1");
        Due.are(court, "pairs = 1; other 0 = 3; other 2 = NONE; other 4 = NONE; lose 0 1 = 1; other 2 = 3");
        // Stock 0 goes without, as no most pairs can have it: 2 and 4 need both foils that there are.
        Due.are(Due.after(THREE_ALIKE + "burn 1; notch 0 0 2 9; notch 3 0 2 5"), "pairs = 2; other 0 = NONE; other 2 = 3; other 4 = 5");
        Due.are(Due.after(THREE_ALIKE + "burn 1; notch 4 0 2 6; notch 5 0 2 7; notch 3 0 2 6"),
            "apart 2 3 = 40; apart 2 5 = 0; apart 0 5 = 0; apart 4 5 = 40; apart 4 3 = 40; pairs = 2; other 0 = 3;"
            + "other 2 = NONE; other 4 = 5");
    }

    // Promise 18
    private static void other() {
        Due.are(Due.after("make 5 0; notch 0 0 2 5; split 0 1 9; memo 1 2; make 1 1"), "other 0 = 1; other 1 = 0;"
            + "other 2 = NONE; other 3 = KIND; other 4 = BEYOND; other -1 = BEYOND; notch 0 0 2 1 = 0; other 0 = NONE;"
            + "other 1 = NONE; found 2 = 3; notch 0 0 2 5 = 12; other 0 = 1; lose 1 1 = 1; other 0 = NONE; other 1 = NONE");
    }

    // Promise 19
    private static void raised() {
        String one = "make 5 0; notch 0 0 2 5; split 0 1 9;";
        Due.are(Due.after(one), "raised 0 = NONE; notch 0 3 1 5 = 13; raised 0 = 103; notch 0 5 1 5 = 14; raised 0 = NONE;"
            + "notch 0 5 1 0 = 13; raised 0 = 103; raised 1 = KIND; raised 2 = BEYOND; raised -1 = BEYOND; lose 0 1 = 1;"
            + "raised 0 = NONE; lose 0 0 = 1; lose 1 1 = 1; raised 0 = NONE; lose 1 0 = 1; raised 0 = 103; burn 1 = 0;"
            + "raised 0 = NONE; make 5 5 = 2; raised 2 = KIND; memo 1 0 = STATE");
        // A cut wider than 5 can be the raised one; one that only grew wider can not.
        Due.are(Due.after(one), "notch 0 10 30 9 = -1; raised 0 = 110; notch 0 10 30 0 = 12; notch 0 2 1 5 = 240; raised 0 = NONE");
        // A cut of depth 1 is none.
        Due.are(Due.after(one + "slack 0"), "notch 0 3 1 1 = 12; pairs = 0; raised 0 = NONE; notch 0 3 1 2 = 13; raised 0 = 103");
        // Unlike grains never join.
        Due.are(Due.after(one + "make 6 0; notch 2 0 2 5; notch 2 3 1 5; split 2 1 9; burn 3; lose 0 1"), "raised 2 = NONE");
        // A foil of a pair does not count.
        Due.are(Due.after(one + "make 5 0; notch 2 0 2 5; split 2 1 9; notch 2 3 1 5; burn 3"), "pairs = 1; raised 2 = NONE;"
            + "lose 0 1 = 1; raised 2 = 103");
    }

    private static void raisedByLeastFoilAndFirstCut() {
        // Without its first or without its second cut stock 0 joins one of the foils.
        TallyCourt court = Due.after("make 5 0; notch 0 0 1 5; split 0 1 9; make 5 0; notch 2 2 1 5; split 2 1 9; burn 2");
        Due.are(court, "notch 0 2 1 5 = 2; pairs = 0; raised 0 = 102; burn 1 = 0; raised 0 = 300");
        // With great slack each of two cuts would do: the first is told.
        Due.are(Due.after("make 5 0; notch 0 0 1 5; split 0 1 9; slack 2; notch 1 0 1 2; notch 1 2 1 2"),
            "notch 0 0 1 5 = 1; notch 0 2 1 4 = 2; raised 0 = 100; notch 0 2 1 5 = 2; raised 0 = NONE");
        Due.are(Due.after("make 5 0; notch 0 0 1 3; split 0 1 9; slack 3; notch 1 0 1 2; notch 0 4 1 4"),
            "pairs = 0; raised 0 = 104; notch 0 0 1 5 = 2; raised 0 = 104; notch 1 4 1 9 = 2; raised 0 = NONE");
        Due.are(Due.after("make 5 0; notch 0 0 1 5; split 0 1 9; slack 3; notch 1 0 1 3; notch 0 4 1 3; notch 0 8 1 4"),
            "pairs = 0; raised 0 = 108");
    }

    private static void memosStayOut() {
        Due.are(Due.after("make 5 0; notch 0 0 2 5; split 0 1 9; memo 1 2; burn 1"), "apart 0 2 = 40; pairs = 0; other 0 = NONE;"
            + "other 2 = NONE; notch 0 3 1 5 = 13; raised 0 = NONE; count 7 = 0");
    }
}
