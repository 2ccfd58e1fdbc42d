/** Pairs: the boundary cases of promises 15 to 19, with those of Terms 2. */
public final class PairsEdgesTest {
    // Stock 0 and foil 1 with one cut of width 2.
    private static final String PAIR = "make 5 0; notch 0 0 2 5; split 0 1 10;";
    // The same, memo 2, piece 3.
    private static final String ALL_KINDS = PAIR + "memo 1 2; make 5 1;";
    // Stocks 0, 2 with foils 1, 3, all alike.
    private static final String TWO_ALIKE = PAIR + "make 5 2; notch 2 0 2 5; split 2 3 20;";
    private static final String MAX = "2147483647";
    private static final String MIN = "-2147483648";

    public static void main(String[] args) {
        slack();
        apartBySlack();
        apart();
        pairs();
        pairsEmptyAndFull();
        mostAndLeast();
        other();
        raised();
        raisedWithout();
        raisedTold();
        Edge.end(15, 19);
    }

    private static void slack() {
        Edge.test(15, "least n", "", "slack -1 = BEYOND; slack " + MIN + " = BEYOND; slack 0 = 1; slack 0 = 0");
        Edge.test(15, "greatest n", "", "slack 4 = BEYOND; slack " + MAX + " = BEYOND; slack 3 = 1; slack 3 = 3");
        Edge.test(15, "what it was", "slack 2", "slack 4 = BEYOND; slack 1 = 2; slack 1 = 1");
    }

    private static void apartBySlack() {
        Edge.test(16, "SLACK 1: 1 and 2 apart, to both sides", PAIR, "notch 1 0 1 6 = 12; apart 0 1 = 40; notch 1 0 1 7 = 12;"
            + "apart 0 1 = 0; notch 1 0 1 4 = 12; apart 0 1 = 40; notch 1 0 1 3 = 12; apart 0 1 = 0");
        Edge.test(16, "SLACK 0: 0 and 1 apart", PAIR + "slack 0", "apart 0 1 = 40; notch 1 1 1 4 = 12; apart 0 1 = 1;"
            + "notch 1 1 1 6 = 12; apart 0 1 = 1");
        Edge.test(16, "SLACK 2: 2 and 3 apart", PAIR + "slack 2", "notch 1 1 1 7 = 12; apart 0 1 = 40; notch 1 1 1 8 = 12;"
            + "apart 0 1 = 1");
        Edge.test(16, "SLACK 3: 3 and 4 apart", PAIR + "slack 3", "notch 1 1 1 2 = 12; apart 0 1 = 40; notch 1 1 1 1 = 1;"
            + "apart 0 1 = 1; notch 0 1 1 9 = 12; notch 1 1 1 6 = 12; apart 0 1 = 40; notch 1 1 1 5 = 12; apart 0 1 = 1");
        Edge.test(16, "DEPTHS 0 and 9", PAIR + "slack 3", "notch 1 20 1 9 = 13; apart 0 1 = 20; notch 0 20 1 9 = 13;"
            + "apart 0 1 = 40; notch 1 20 1 0 = 12; apart 0 1 = 20");
    }

    private static void apart() {
        Edge.test(16, "the first and the last PLACE", PAIR, "notch 0 39 1 2 = 13; apart 0 1 = 39; notch 0 39 1 1 = 12;"
            + "apart 0 1 = 40; notch 0 0 1 8 = 12; apart 0 1 = 0");
        Edge.test(16, "the first of several PLACES", PAIR, "notch 0 20 3 5 = -1; apart 0 1 = 20; notch 0 10 1 2 = -1;"
            + "apart 0 1 = 10");
        Edge.test(16, "GRAINS unlike, and no PLACE", PAIR + "make 6 0; notch 2 0 2 5; split 2 1 10",
            "apart 0 3 = -1; apart 2 1 = -1; apart 2 3 = 40");
        Edge.test(16, "GRAINS unlike, and a PLACE", PAIR + "make 6 0; notch 2 0 2 5; split 2 1 10",
            "notch 3 39 1 2 = 13; apart 0 3 = 39; notch 3 0 1 0 = 2; apart 0 3 = 0");
        Edge.test(16, "no such first PIECE", ALL_KINDS, "apart -1 1 = BEYOND; apart 4 1 = BEYOND; apart " + MIN
            + " 1 = BEYOND; apart " + MAX + " 1 = BEYOND; apart 0 1 = 40");
        Edge.test(16, "no such second PIECE", ALL_KINDS, "apart 0 -1 = BEYOND; apart 0 4 = BEYOND; apart 0 " + MIN
            + " = BEYOND; apart 0 " + MAX + " = BEYOND");
        Edge.test(16, "the first is no STOCK", ALL_KINDS, "apart 1 1 = KIND; apart 2 1 = KIND; apart 3 1 = KIND");
        Edge.test(16, "the second is no FOIL", ALL_KINDS, "apart 0 0 = KIND; apart 0 3 = KIND; apart 1 0 = KIND");
        Edge.test(16, "a MEMO is a FOIL", ALL_KINDS, "apart 0 2 = 40; notch 2 1 1 9 = 12; apart 0 2 = 1");
        Edge.test(16, "BEYOND is asked ahead of KIND", ALL_KINDS, "apart 1 4 = BEYOND; apart 3 -1 = BEYOND; apart 4 0 = BEYOND");
        Edge.test(16, "LOST and BURNT ones too", PAIR + "lose 0 1; burn 1", "apart 0 1 = 40; pairs = 0");
    }

    private static void pairs() {
        Edge.test(17, "HELD STOCKS alone", PAIR, "pairs = 1; lose 0 1 = 1; pairs = 0; lose 0 0 = 1; pairs = 1; burn 0 = 0;"
            + "pairs = 0");
        Edge.test(17, "HELD FOILS alone", PAIR, "lose 1 1 = 1; pairs = 0; lose 1 0 = 1; pairs = 1; burn 1 = 0; pairs = 0");
        Edge.test(17, "no MEMOS", ALL_KINDS, "pairs = 1; burn 1 = 0; pairs = 0");
        Edge.test(17, "at SLACK and beyond it", PAIR, "notch 1 1 1 6 = 12; pairs = 1; notch 1 1 1 7 = 12; pairs = 0; slack 2 = 1;"
            + "pairs = 1");
        Edge.test(17, "the last PLACE counts", PAIR, "notch 1 39 1 1 = 12; pairs = 1; notch 1 39 1 2 = 13; pairs = 0");
        Edge.test(17, "unlike GRAINS", PAIR + "make 6 0; notch 2 0 2 5; split 2 1 10; burn 0; burn 3",
            "apart 2 1 = -1; pairs = 0");
        Edge.test(17, "GRAINS 0 and 99", "make 0 0; notch 0 0 1 5; split 0 1 1; make 99 0; notch 2 0 1 5; split 2 1 1",
            "pairs = 2; other 0 = 1; other 2 = 3");
        Edge.test(17, "each with one at most", TWO_ALIKE, "pairs = 2; burn 3 = 0; pairs = 1; burn 0 = 0; pairs = 1; burn 1 = 0;"
            + "pairs = 0");
        Edge.test(17, "uncut ones JOIN, too", PAIR, "notch 0 0 2 0 = 0; notch 1 0 2 0 = 0; pairs = 1; count 7 = 0");
    }

    private static void pairsEmptyAndFull() {
        Edge.test(17, "no PIECES, and uncut ones alone", "", "pairs = 0; make 1 1 = 0; pairs = 0");
        Edge.test(17, "the most that there can be, of one GRAIN", manyAlike(), "count 0 = 30; pairs = 15; other 0 = 1;"
            + "other 14 = 15; other 28 = 29; other 29 = 28");
        Edge.test(17, "of these the first FOIL is LOST", manyAlike() + "lose 1 1", "pairs = 14; other 0 = 3; other 2 = 5;"
            + "other 26 = 29; other 28 = NONE; other 1 = NONE");
        Edge.test(17, "of these the first STOCK is LOST", manyAlike() + "lose 0 1", "pairs = 14; other 2 = 1; other 28 = 27;"
            + "other 29 = NONE; other 0 = NONE");
        Edge.test(17, "one FOIL for fifteen STOCKS", manyAlike() + "burn 1; burn 3; burn 5; burn 7; burn 9; burn 11; burn 13;"
            + "burn 15; burn 17; burn 19; burn 21; burn 23; burn 25; burn 27", "pairs = 1; other 0 = 29; other 28 = NONE;"
            + "burn 0 = 0; other 2 = 29");
        Edge.test(17, "STOCKS 0 to 14, then FOILS", Sticks.filler(15) + notchAll(15) + splitAll(15), "pairs = 15; other 0 = 15;"
            + "other 14 = 29; other 29 = 14");
    }

    /** Fifteen stocks 0, 2, .. with foils 1, 3, .., all alike. */
    private static String manyAlike() {
        StringBuilder calls = new StringBuilder();
        for (int i = 0; i < 15; i++) {
            calls.append(Sticks.debtOf(2 * i, 1, 0, 5, 10, 2));
        }
        return calls.toString();
    }

    private static String notchAll(int pieces) {
        StringBuilder calls = new StringBuilder();
        for (int i = 0; i < pieces; i++) {
            calls.append("notch ").append(i).append(" 0 2 5;");
        }
        return calls.toString();
    }

    private static String splitAll(int pieces) {
        StringBuilder calls = new StringBuilder();
        for (int i = 0; i < pieces; i++) {
            calls.append("split ").append(i).append(" 1 10;");
        }
        return calls.toString();
    }

    private static void mostAndLeast() {
        Edge.test(18, "of several ways the least FOIL for the least STOCK", TWO_ALIKE, "other 0 = 1; other 2 = 3; other 1 = 0;"
            + "other 3 = 2");
        Edge.test(18, "the most ahead of the least FOIL", TWO_ALIKE + "notch 3 0 2 6; notch 2 0 2 4",
            "apart 0 1 = 40; apart 0 3 = 40; apart 2 1 = 40; apart 2 3 = 0; pairs = 2; other 0 = 3; other 2 = 1");
        Edge.test(18, "none is greater than all: the least STOCK has one if it can", TWO_ALIKE + "burn 1",
            "pairs = 1; other 0 = 3; other 2 = NONE");
        Edge.test(18, "none for the least STOCK if it JOINS no FOIL", TWO_ALIKE + "notch 0 0 2 9", "pairs = 1; other 0 = NONE;"
            + "other 2 = 1; other 3 = NONE");
        // Stock 0 joins foils 3 and 5, stock 2 foils 1 and 3, stock 4 foil 3 alone.
        Edge.test(18, "a STOCK gives way along a chain", Sticks.debtOf(0, 1, 0, 5, 1, 1) + Sticks.debtOf(2, 1, 0, 5, 1, 1)
            + Sticks.debtOf(4, 1, 0, 5, 1, 1) + "slack 0; notch 0 0 1 5; notch 2 0 1 5; notch 4 0 1 5; notch 1 0 1 4;"
            + "notch 3 0 1 5; notch 5 0 1 6; slack 1; notch 0 0 1 6; notch 2 0 1 4; notch 1 0 1 3; notch 5 0 1 7",
            "apart 0 1 = 0; apart 0 3 = 40; apart 0 5 = 40; apart 2 1 = 40; apart 2 3 = 40; apart 2 5 = 0; apart 4 1 = 0;"
            + "apart 4 3 = 40; apart 4 5 = 0; pairs = 3; other 0 = 5; other 2 = 1; other 4 = 3");
    }

    private static void other() {
        Edge.test(18, "no such PIECE", ALL_KINDS, "other -1 = BEYOND; other 4 = BEYOND; other " + MIN + " = BEYOND; other " + MAX
            + " = BEYOND; other 0 = 1");
        Edge.test(18, "KIND: neither STOCK nor FOIL", ALL_KINDS, "other 3 = KIND; burn 3 = 0; other 3 = KIND");
        Edge.test(18, "NONE: a MEMO is of none", ALL_KINDS, "other 2 = NONE; burn 1 = 0; other 2 = NONE; other 0 = NONE");
        Edge.test(18, "NONE: of a LOST or BURNT part", PAIR, "lose 0 1 = 1; other 0 = NONE; other 1 = NONE; lose 0 0 = 1;"
            + "other 1 = 0; burn 1 = 0; other 0 = NONE; other 1 = NONE");
        Edge.test(18, "the least and the last PIECE", Sticks.debtOf(0, 1, 0, 5, 10, 2) + Sticks.filler(26)
            + Sticks.debtOf(28, 1, 0, 4, 10, 2), "other 0 = 1; other 1 = 0; other 28 = 29; other 29 = 28; other 30 = BEYOND");
    }

    private static void raised() {
        Edge.test(19, "no such PIECE", ALL_KINDS, "raised -1 = BEYOND; raised 4 = BEYOND; raised " + MIN + " = BEYOND; raised "
            + MAX + " = BEYOND");
        Edge.test(19, "KIND: no STOCK", ALL_KINDS, "raised 1 = KIND; raised 2 = KIND; raised 3 = KIND");
        Edge.test(19, "KIND is asked ahead of NONE", ALL_KINDS + "burn 1; burn 3", "raised 1 = KIND; raised 3 = KIND");
        Edge.test(19, "NONE: it is of a PAIR", PAIR, "raised 0 = NONE");
        Edge.test(19, "one CUT more, and two", PAIR, "notch 0 3 1 5 = 13; raised 0 = 103; notch 0 5 1 5 = 14; raised 0 = NONE;"
            + "notch 0 3 1 0 = 13; raised 0 = 105");
        Edge.test(19, "NONE: the STOCK is LOST, or BURNT", PAIR + "notch 0 3 1 5", "raised 0 = 103; lose 0 1 = 1; raised 0 = NONE;"
            + "lose 0 0 = 1; raised 0 = 103; burn 0 = 0; raised 0 = NONE");
        Edge.test(19, "NONE: the FOIL is LOST, or BURNT", PAIR + "notch 0 3 1 5", "lose 1 1 = 1; raised 0 = NONE; lose 1 0 = 1;"
            + "raised 0 = 103; burn 1 = 0; raised 0 = NONE");
        Edge.test(19, "NONE: the FOIL is of a PAIR", TWO_ALIKE + "burn 3; notch 2 3 1 5", "other 0 = 1; raised 2 = NONE;"
            + "burn 0 = 0; raised 2 = 103");
        Edge.test(19, "NONE: the FOIL is of a PAIR with a later STOCK", TWO_ALIKE + "burn 1; notch 0 3 1 5", "other 2 = 3;"
            + "raised 0 = NONE; burn 2 = 0; raised 0 = 303");
        Edge.test(19, "NONE: it is of a PAIR, though another FOIL would tell it", "make 5 0; notch 0 0 2 5; notch 0 3 1 5;"
            + "split 0 1 10; make 5 2; notch 2 0 2 5; split 2 3 20; burn 2", "other 0 = 1; raised 0 = NONE; lose 1 1 = 1;"
            + "raised 0 = 303; lose 1 0 = 1; raised 0 = NONE");
        Edge.test(19, "NONE: GRAINS are unlike", PAIR + "make 6 0; notch 2 0 2 5; split 2 1 10; notch 2 3 1 5; burn 0; burn 3",
            "raised 2 = NONE");
        Edge.test(19, "NONE: a MEMO alone", ALL_KINDS + "notch 0 3 1 5; burn 1", "apart 0 2 = 3; raised 0 = NONE");
        Edge.test(19, "NONE: no CUT at all", PAIR, "notch 0 0 2 0 = 0; raised 0 = NONE; notch 0 0 2 1 = 0; raised 0 = NONE");
    }

    private static void raisedWithout() {
        Edge.test(19, "a DEPTH of 2 is a CUT to leave out, 1 is none", PAIR + "slack 0", "notch 0 3 1 1 = 12; pairs = 0;"
            + "raised 0 = NONE; notch 0 3 1 2 = 13; raised 0 = 103; notch 0 3 1 1 = 12; raised 0 = NONE");
        Edge.test(19, "the most CUTS", "make 5 0; notch 0 0 1 5; split 0 1 9;" + Sticks.cuts(0, Sticks.alike(20, 1)),
            "about 0 5 = 20; raised 0 = NONE; " + foilLikeAllButOne() + "raised 0 = 138");
        Edge.test(19, "the FOIL is at SLACK from 0 there, and beyond it", PAIR + "notch 0 3 1 5",
            "notch 1 3 1 1 = 12; raised 0 = 103; notch 1 3 1 2 = 13; raised 0 = NONE; slack 2 = 1; raised 0 = 103");
        Edge.test(19, "other PLACES at SLACK, and beyond it", PAIR + "notch 0 3 1 5", "notch 1 1 1 6 = 12; raised 0 = 103;"
            + "notch 1 1 1 7 = 12; raised 0 = NONE; notch 1 1 1 5 = 12; notch 1 39 1 1 = 12; raised 0 = 103; notch 1 39 1 2 = 13;"
            + "raised 0 = NONE");
        Edge.test(19, "a CUT that only grew", PAIR, "notch 0 2 1 5 = 240; raised 0 = NONE");
        Edge.test(19, "PLACES of DEPTH 1 beside the CUT stay", PAIR + "slack 0; notch 0 3 1 5",
            "raised 0 = 103; notch 0 4 1 1 = 13; raised 0 = NONE; notch 1 4 1 1 = 12; raised 0 = 103");
        Edge.test(19, "a CUT that has a FAULT", PAIR, "notch 0 10 30 9 = -1; raised 0 = 110; notch 0 9 1 9 = -1; raised 0 = 109");
        Edge.test(19, "one CUT of all PLACES", PAIR + "notch 0 0 40 5; notch 1 0 40 0", "raised 0 = 100; notch 1 39 1 2 = 1;"
            + "raised 0 = NONE");
    }

    /** Foil 1 gets the cuts that stock 0 has at every second place, but for the last one. */
    private static String foilLikeAllButOne() {
        StringBuilder rows = new StringBuilder();
        for (int i = 1; i < 19; i++) {
            rows.append("notch 1 ").append(2 * i).append(" 1 5 = ").append(i < 9 ? i + 1 : -1).append(';');
        }
        return rows.toString();
    }

    private static void raisedTold() {
        Edge.test(19, "the least number that can be told", "make 5 0; notch 0 3 2 5; split 0 1 9",
            "notch 0 0 1 5 = -1; raised 0 = 100");
        Edge.test(19, "the greatest number that can be told", Sticks.filler(28) + Sticks.debtOf(28, 1, 0, 5, 9, 2),
            "notch 28 39 1 5 = 13; raised 28 = 2939");
        // Without its second cut stock 0 joins foil 1, without its first foil 3.
        Edge.test(19, "the least FOIL ahead of the first CUT", "make 5 0; notch 0 0 1 5; split 0 1 9; make 5 0; notch 2 2 1 5;"
            + "split 2 1 9; burn 2; notch 0 2 1 5", "pairs = 0; raised 0 = 102; lose 1 1 = 1; raised 0 = 300; lose 1 0 = 1;"
            + "raised 0 = 102");
        // If each of two cuts could be left out, no place would be apart, and the two would be a pair: so "the first" has no rival.
        Edge.test(19, "a CUT that the FOIL has, too, less deep", "make 5 0; notch 0 0 1 5; split 0 1 9; slack 2; notch 1 0 1 2;"
            + "notch 1 2 1 2; notch 0 2 1 4", "apart 0 1 = 0; raised 0 = 100; notch 0 0 1 4 = 2; raised 0 = NONE; other 0 = 1;"
            + "notch 0 2 1 5 = 2; raised 0 = 102");
        Edge.test(19, "two STOCKS told by one FOIL", TWO_ALIKE + "burn 3; notch 0 3 1 5; notch 2 5 1 5",
            "pairs = 0; raised 0 = 103; raised 2 = 105");
    }
}
