/** Debts: the boundary cases of promises 24 to 30, with those of Terms 3 and 4. */
public final class DebtsEdgesTest {
    // Party 1 owes party 0 24; stock 0, foil 1, due on day 10.
    private static final String ONE = Sticks.debt(0, 1, 0, 2, 1, 10);
    // The same, memo 2, piece 3.
    private static final String ALL_KINDS = ONE + "memo 1 2; make 5 1;";
    // 1 owes 0 24, 0 owes 1 36.
    private static final String TWO_RING = ONE + Sticks.debt(2, 0, 1, 3, 2, 20);
    // 0 owes 1 24, 1 owes 2 12, 2 owes 0 36: two rests.
    private static final String THREE_RING = Sticks.debt(0, 2, 0, 3, 9, 1) + Sticks.debt(2, 1, 2, 1, 8, 2)
        + Sticks.debt(4, 0, 1, 2, 7, 3);
    // Six cuts of width 5 and one of width 3: 72240.
    private static final String WIDE = Sticks.debtOf(0, 1, 0, 1, 9, 5, 5, 5, 5, 5, 5, 3);
    private static final String MAX = "2147483647";
    private static final String MIN = "-2147483648";

    public static void main(String[] args) {
        owes();
        debts();
        net();
        ring();
        ringOfSeveral();
        setOffRefused();
        setOffRoom();
        setOff();
        setOffNewParts();
        toPay();
        late();
        payRefused();
        payRests();
        payRoom();
        pay();
        payDue();
        purse();
        Edge.end(24, 30);
    }

    /** Each owes the one three below it 12: all eight are in one ring. */
    private static String eightRing() {
        StringBuilder calls = new StringBuilder();
        for (int party = 0; party < 8; party++) {
            calls.append(Sticks.debt(2 * party, (party + 3) % 8, party, 1, party, 9));
        }
        return calls.toString();
    }

    private static void owes() {
        Edge.test(24, "least PARTIES", Sticks.debt(0, 0, 7, 1, 1, 9), "owes -1 7 = BEYOND; owes 0 -1 = BEYOND; owes " + MIN
            + " 7 = BEYOND; owes 0 " + MIN + " = BEYOND; owes 0 7 = 12");
        Edge.test(24, "greatest PARTIES", Sticks.debt(0, 7, 0, 1, 1, 9), "owes 8 0 = BEYOND; owes 7 8 = BEYOND; owes " + MAX
            + " 0 = BEYOND; owes 7 " + MAX + " = BEYOND; owes 7 0 = 12; owes 0 7 = 0");
        Edge.test(24, "a, b are one", ONE, "owes 0 0 = BEYOND; owes 1 1 = BEYOND; owes 7 7 = BEYOND; owes 0 1 = 0");
        Edge.test(24, "none and two DEBTS", ONE + Sticks.debt(2, 1, 0, 3, 2, 9), "owes 1 0 = 60; burn 0 = 0; owes 1 0 = 36;"
            + "burn 2 = 0; owes 1 0 = 0");
        Edge.test(24, "what is LATE is not owed so", ONE + "day 9999", "toPay 0 = 356; owes 1 0 = 24; net 0 = 24");
    }

    private static void debts() {
        Edge.test(24, "DEBT: the HOLDERS are two", Sticks.debt(0, 3, 3, 1, 1, 9), "pairs = 1; count 7 = 0; net 3 = 0;"
            + "pass 0 4 = 1; count 7 = 1; owes 3 4 = 12; pass 0 3 = 2; count 7 = 0");
        Edge.test(24, "DEBT: the least VALUE, and 0", Sticks.debtOf(0, 1, 0, 1, 9, 1), "owes 1 0 = 1; count 7 = 1;"
            + "notch 0 0 1 1 = 0; notch 1 0 1 1 = 0; pairs = 1; count 7 = 0; owes 1 0 = 0");
        Edge.test(24, "DEBT: a FAULT", ONE, "notch 0 6 1 5 = 25; notch 1 6 1 5 = 25; owes 1 0 = 25; notch 0 8 2 5 = -1;"
            + "notch 1 8 2 5 = -1; pairs = 1; count 7 = 0; owes 1 0 = 0");
        Edge.test(24, "DEBT: the FOIL's VALUE is not asked", ONE + "slack 3", "notch 1 0 2 2 = 24; wear 1 1 = 4; about 1 7 = 12;"
            + "pairs = 0; notch 0 0 2 4 = 24; pairs = 1; owes 1 0 = 24");
        Edge.test(24, "DEBT: a LOST or BURNT part", ONE, "lose 0 1 = 1; count 7 = 0; lose 0 0 = 1; lose 1 1 = 1; owes 1 0 = 0;"
            + "lose 1 0 = 1; owes 1 0 = 24; burn 1 = 0; owes 1 0 = 0");
        Edge.test(24, "the greatest VALUES", "measure 5 100000; measure 4 99999; measure 3 99998; measure 2 99997;"
            + "measure 1 99996;" + Sticks.debtOf(0, 1, 0, 1, 0, 3, 3, 2, 2, 2, 2, 2, 1, 1, 1, 1, 1, 1, 1, 1, 1) + "day 9999",
            "owes 1 0 = 1599945; net 1 = -1599945; toPay 0 = 28238946");
    }

    private static void net() {
        Edge.test(25, "least PARTY", Sticks.debt(0, 7, 0, 1, 1, 9), "net -1 = BEYOND; net " + MIN + " = BEYOND; net 0 = 12");
        Edge.test(25, "greatest PARTY", Sticks.debt(0, 7, 0, 1, 1, 9), "net 8 = BEYOND; net " + MAX + " = BEYOND; net 7 = -12");
        Edge.test(25, "no DEBTS", "make 1 1", "net 0 = 0; net 1 = 0; net 7 = 0");
        Edge.test(25, "both ways alike", ONE + Sticks.debt(2, 0, 1, 2, 2, 9), "net 0 = 0; net 1 = 0");
    }

    private static void ring() {
        Edge.test(26, "least i", TWO_RING, "ring -3 = BEYOND; ring " + MIN + " = BEYOND; ring -2 = 24; ring -1 = 2; ring 0 = 0");
        Edge.test(26, "greatest i", TWO_RING, "ring 1 = 1; ring 2 = NONE; ring 7 = NONE; ring 8 = NONE; ring " + MAX + " = NONE");
        Edge.test(26, "there is no RING: no DEBTS", "", "ring -2 = NONE; ring -1 = NONE; ring 0 = NONE; ring 1 = NONE; ring "
            + MAX + " = NONE");
        Edge.test(26, "there is no RING: one DEBT", ONE, "ring -2 = NONE; ring -1 = NONE; ring 0 = NONE");
        Edge.test(26, "there is no RING: a way that does not come back", ONE + Sticks.debt(2, 2, 1, 1, 2, 9)
            + Sticks.debt(4, 2, 0, 1, 3, 9), "ring -1 = NONE; ring 0 = NONE");
        Edge.test(26, "BEYOND is asked ahead of NONE", "", "ring -3 = BEYOND; ring -2 = NONE");
        Edge.test(26, "the most PARTIES", eightRing(), "ring -1 = 8; ring -2 = 12; ring 0 = 0; ring 1 = 5; ring 2 = 2; ring 3 = 7;"
            + "ring 4 = 4; ring 5 = 1; ring 6 = 6; ring 7 = 3; ring 8 = NONE; lose 14 1 = 1; ring -1 = NONE; ring 7 = NONE");
        Edge.test(26, "the least AMOUNT", TWO_RING, "ring -2 = 24; notch 0 0 5 0 = 0; notch 1 0 5 0 = 0; ring -2 = NONE;"
            + "notch 0 0 1 5 = 1; notch 1 0 1 5 = 1; ring -2 = 1");
        Edge.test(26, "AMOUNT: the least is the last owed along it", THREE_RING + "burn 0;" + Sticks.debtOf(6, 2, 0, 9, 1, 1),
            "ring -1 = 3; ring -2 = 1; burn 6 = 0; ring -1 = NONE");
    }

    private static void ringOfSeveral() {
        String sixSeven = Sticks.debt(0, 6, 7, 1, 1, 9) + Sticks.debt(2, 7, 6, 1, 2, 9);
        Edge.test(26, "the fewest PARTIES ahead of the least", sixSeven + Sticks.debt(4, 0, 1, 1, 3, 9)
            + Sticks.debt(6, 1, 2, 1, 4, 9) + Sticks.debt(8, 2, 0, 1, 5, 9), "ring -1 = 2; ring 0 = 6; ring 1 = 7; burn 0 = 0;"
            + "ring -1 = 3; ring 0 = 0");
        Edge.test(26, "the least first PARTY", sixSeven + Sticks.debt(4, 1, 5, 1, 3, 9) + Sticks.debt(6, 5, 1, 1, 4, 9),
            "ring -1 = 2; ring 0 = 1; ring 1 = 5; burn 4 = 0; ring 0 = 6");
        Edge.test(26, "the least second PARTY", Sticks.debt(0, 0, 7, 1, 1, 9) + Sticks.debt(2, 7, 0, 1, 2, 9)
            + Sticks.debt(4, 0, 1, 1, 3, 9) + Sticks.debt(6, 1, 0, 1, 4, 9), "ring 1 = 1; burn 4 = 0; ring 1 = 7");
        // 0 1 3 and 0 1 2, then 0 2 ..: the third party tells.
        Edge.test(26, "the least third PARTY", Sticks.debt(0, 0, 1, 1, 1, 9) + Sticks.debt(2, 1, 3, 1, 2, 9)
            + Sticks.debt(4, 3, 0, 1, 3, 9) + Sticks.debt(6, 1, 2, 1, 4, 9) + Sticks.debt(8, 2, 0, 1, 5, 9),
            "ring 0 = 0; ring 1 = 1; ring 2 = 2; burn 8 = 0; ring -1 = 3; ring 2 = 3");
        Edge.test(26, "told from its least PARTY on", Sticks.debt(0, 7, 3, 1, 1, 9) + Sticks.debt(2, 3, 5, 1, 2, 9)
            + Sticks.debt(4, 5, 7, 1, 3, 9), "ring 0 = 3; ring 1 = 5; ring 2 = 7; ring 3 = NONE");
    }

    private static void setOffRefused() {
        Edge.test(27, "NONE: no DEBTS, and one way alone", "", "setOff = NONE; make 1 0 = 0; notch 0 0 1 5 = 1; split 0 1 9 = 1;"
            + "setOff = NONE");
        Edge.test(27, "a rest of 9 can be COMPOSED", Sticks.debt(0, 1, 0, 1, 1, 9) + Sticks.debtOf(2, 0, 1, 2, 9, 1, 1, 1),
            "setOff = 3; about 4 7 = 9; about 4 5 = 9");
        Edge.test(27, "STATE: a rest of 10 can't", Sticks.debt(0, 1, 0, 1, 1, 9) + Sticks.debtOf(2, 0, 1, 2, 9, 1, 1),
            "ring -2 = 2; setOff = STATE; count 0 = 4; count 3 = 0");
        String lowWorths = "measure 2 2; measure 3 10;";
        Edge.test(27, "a rest that takes 40 PLACES", lowWorths + WIDE + Sticks.debtOf(2, 0, 1, 2, 9, Sticks.alike(7, 1)),
            "owes 1 0 = 72010; setOff = 7; about 4 7 = 72003; cut 4 6 = 3602; cut 4 7 = 3901; cut 4 8 = NONE; about 5 7 = 72003");
        Edge.test(27, "STATE: a rest that takes 41 PLACES", lowWorths + WIDE + Sticks.debtOf(2, 0, 1, 2, 9, Sticks.alike(6, 1)),
            "ring -2 = 6; setOff = STATE");
        Edge.test(27, "STATE: a rest of 1, where the least WORTH is 2", "measure 1 2; measure 2 3;"
            + Sticks.debtOf(0, 1, 0, 1, 9, 2) + Sticks.debtOf(2, 0, 1, 2, 9, 1), "ring -2 = 2; setOff = STATE; count 3 = 0");
        // Since a cut of width 4 is worth 241, what 5 owes 6 could not be composed any more.
        Edge.test(27, "a DEBT that stays whole need not be COMPOSED",
            Sticks.debtOf(0, 5, 6, 1, 9, Sticks.join(Sticks.alike(9, 3), 2)) + Sticks.debt(2, 1, 0, 1, 2, 9)
            + Sticks.debt(4, 0, 1, 1, 3, 9) + "measure 1 11; measure 4 241", "owes 5 6 = 2172; composed 2172 = STATE; setOff = 12;"
            + "about 0 4 = 0; owes 5 6 = 2172; count 3 = 4");
        // The rest of 0's debt to 1 composes, that of 1's to 2 does not; and the other way round.
        Edge.test(27, "STATE: one of two rests, the later", Sticks.debtOf(0, 2, 0, 1, 9, 1) + Sticks.debtOf(2, 0, 1, 2, 9, 1, 1)
            + Sticks.debt(4, 1, 2, 1, 3, 9), "ring -2 = 1; setOff = STATE; count 0 = 6; count 3 = 0");
        Edge.test(27, "STATE: one of two rests, the first", Sticks.debtOf(0, 2, 0, 1, 9, 1) + Sticks.debtOf(2, 1, 2, 2, 9, 1, 1)
            + Sticks.debt(4, 0, 1, 1, 3, 9), "ring -2 = 1; setOff = STATE; count 0 = 6; count 3 = 0");
        Edge.test(27, "NONE is asked ahead of FULL", Sticks.filler(30), "setOff = NONE");
        Edge.test(27, "STATE is asked ahead of FULL", Sticks.debt(0, 1, 0, 1, 1, 9) + Sticks.debtOf(2, 0, 1, 2, 9, 1, 1)
            + Sticks.filler(26), "setOff = STATE");
    }

    private static void setOffRoom() {
        Edge.test(27, "room for one rest", TWO_RING + Sticks.filler(24), "count 0 = 28; setOff = 24; count 0 = 30;"
            + "other 28 = 29");
        Edge.test(27, "FULL: room for a STOCK alone", TWO_RING + Sticks.filler(25), "count 0 = 29; setOff = FULL; count 3 = 0;"
            + "ring -2 = 24");
        Edge.test(27, "FULL: no room at all", TWO_RING + Sticks.filler(26), "count 0 = 30; setOff = FULL; count 3 = 0");
        Edge.test(27, "room for two rests", THREE_RING + Sticks.filler(20), "count 0 = 26; setOff = 12; count 0 = 30;"
            + "other 26 = 27; other 28 = 29");
        Edge.test(27, "FULL: room for one of two rests", THREE_RING + Sticks.filler(22), "count 0 = 28; setOff = FULL;"
            + "count 0 = 28; count 3 = 0");
        Edge.test(27, "FULL: room for one and a half of two rests", THREE_RING + Sticks.filler(21), "count 0 = 27; setOff = FULL;"
            + "count 0 = 27; count 3 = 0");
        Edge.test(27, "no room is needed where there is no rest", ONE + Sticks.debt(2, 0, 1, 2, 2, 9) + Sticks.filler(26),
            "count 0 = 30; setOff = 24; count 3 = 4");
        Edge.test(27, "FULL: room for a STOCK alone, and a rest of 1", ONE + Sticks.debtOf(2, 0, 1, 2, 20, 2, 2, 1)
            + Sticks.filler(25), "ring -2 = 24; setOff = FULL; count 3 = 0");
        Edge.test(27, "no room is needed for DEBTS that stay whole", ONE + Sticks.debt(2, 0, 1, 2, 2, 9)
            + Sticks.debt(4, 1, 0, 1, 3, 9) + Sticks.debt(6, 5, 6, 1, 4, 9) + Sticks.filler(22), "count 0 = 30; setOff = 24;"
            + "count 3 = 4; owes 1 0 = 12; owes 5 6 = 12");
        Edge.test(27, "all eight PARTIES and no rest", eightRing(), "ring -1 = 8; setOff = 12; count 3 = 16; count 0 = 16;"
            + "ring -1 = NONE");
        Edge.test(27, "the most rests: seven of eight DEBTS", eightOfOneMore(), "ring -1 = 8; ring -2 = 12; count 0 = 16;"
            + "setOff = 12; count 0 = 30; count 3 = 16; other 28 = 29; about 28 7 = 1; net 0 = -1; net 1 = 0; net 7 = 1");
    }

    /** 0 owes 1, .. 6 owes 7 13 each, and 7 owes 0 12. */
    private static String eightOfOneMore() {
        StringBuilder calls = new StringBuilder();
        for (int party = 0; party < 8; party++) {
            int[] widths = party == 7 ? new int[] {2} : new int[] {2, 1};
            calls.append(Sticks.debtOf(2 * party, party, (party + 1) % 8, party, 9, widths));
        }
        return calls.toString();
    }

    private static void setOff() {
        Edge.test(27, "one that is as great is BURNT", ONE + Sticks.debt(2, 0, 1, 2, 2, 20), "setOff = 24; about 0 4 = 2;"
            + "about 1 4 = 2; about 2 4 = 2; about 3 4 = 2; count 0 = 4; count 7 = 0");
        Edge.test(27, "one that is greater by 1 is CUT DOWN", ONE + Sticks.debtOf(2, 0, 1, 2, 20, 2, 2, 1),
            "setOff = 24; count 0 = 6; about 4 7 = 1; about 4 2 = 1; about 5 2 = 0; owes 0 1 = 1");
        Edge.test(27, "the least DEBTS", Sticks.debtOf(0, 1, 0, 1, 9, 1) + Sticks.debtOf(2, 0, 1, 2, 9, 1),
            "setOff = 1; count 3 = 4; count 0 = 4; setOff = NONE");
        String sticks = Sticks.debt(0, 1, 0, 1, 1, 10) + Sticks.debt(2, 1, 0, 1, 2, 20) + Sticks.debt(4, 1, 0, 1, 3, 30);
        Edge.test(27, "by numbers of STOCKS: the first is all", sticks + Sticks.debt(6, 0, 1, 1, 4, 9),
            "setOff = 12; about 0 4 = 2; about 1 4 = 2; about 2 4 = 0; about 3 4 = 0; about 4 4 = 0; count 0 = 8; owes 1 0 = 24");
        Edge.test(27, "by numbers of STOCKS: one and 1 of the next", sticks + Sticks.debtOf(6, 0, 1, 4, 9, 2, 1),
            "ring -2 = 13; setOff = STATE; measure 2 9 = 12; ring -2 = 10; setOff = 10; about 0 4 = 2; about 2 4 = 2;"
            + "about 4 4 = 0; about 8 7 = 8; about 8 3 = 20; count 0 = 10; owes 1 0 = 17");
        Edge.test(27, "by numbers of STOCKS: all of them", sticks + Sticks.debt(6, 0, 1, 3, 4, 9), "setOff = 36; count 3 = 8;"
            + "count 0 = 8");
        Edge.test(27, "LATE ones: their VALUE alone", TWO_RING + "day 9999", "toPay 2 = 368; setOff = 24; about 4 7 = 12;"
            + "about 4 3 = 20; about 5 3 = 20; purse 0 -1 = 1000; purse 1 -1 = 1000");
        Edge.test(27, "DEBTS of others to the creditor, and of the debtor to others, stay", Sticks.debt(0, 3, 0, 1, 1, 10)
            + Sticks.debt(2, 1, 4, 1, 2, 10) + Sticks.debt(4, 1, 0, 1, 3, 10) + Sticks.debt(6, 0, 1, 1, 4, 10),
            "setOff = 12; about 0 4 = 0; about 1 4 = 0; about 2 4 = 0; about 3 4 = 0; about 4 4 = 2; about 6 4 = 2; count 0 = 8;"
            + "owes 3 0 = 12; owes 1 4 = 12");
        Edge.test(27, "nobody's NET changes", THREE_RING, "net 0 = 12; net 1 = 12; net 2 = -24; setOff = 12; net 0 = 12;"
            + "net 1 = 12; net 2 = -24; net 3 = 0; ring -1 = NONE");
    }

    private static void setOffNewParts() {
        Edge.test(27, "the least GRAIN: 0", Sticks.debt(0, 1, 0, 2, 1, 10) + Sticks.debt(2, 0, 1, 1, 2, 20),
            "setOff = 12; about 4 1 = 0; about 5 1 = 0");
        Edge.test(27, "the least GRAIN that no PIECE ever had", Sticks.debt(0, 1, 0, 2, 0, 10) + Sticks.debt(2, 0, 1, 1, 99, 20)
            + "make 1 5; burn 4; make 2 5; lose 5 1; make 4 5", "setOff = 12; about 7 1 = 3; about 8 1 = 3");
        Edge.test(27, "the least GRAIN: the first PIECE alone had 0", "make 0 6;" + Sticks.debt(1, 1, 0, 2, 2, 10)
            + Sticks.debt(3, 0, 1, 1, 3, 20), "setOff = 12; about 5 1 = 1; about 6 1 = 1");
        Edge.test(27, "the least GRAIN: all to 25 were had", Sticks.debt(0, 1, 0, 2, 0, 10) + Sticks.debt(2, 0, 1, 1, 1, 20)
            + grains(2, 25), "count 0 = 28; setOff = 12; about 28 1 = 26; about 29 1 = 26");
        Edge.test(27, "two rests, two GRAINS", THREE_RING, "setOff = 12; about 6 1 = 0; about 7 1 = 0; about 8 1 = 1;"
            + "about 9 1 = 1");
        Edge.test(27, "DUE as the FOIL was: day 0 and the last", Sticks.debt(0, 1, 0, 2, 1, 0) + Sticks.debt(2, 0, 1, 1, 2, 20)
            + "day 50", "setOff = 12; about 4 3 = 0; about 5 3 = 0");
        Edge.test(27, "DUE as the FOIL was: the last day", Sticks.debt(0, 1, 0, 2, 1, 9999) + Sticks.debt(2, 0, 1, 1, 2, 20),
            "setOff = 12; about 4 3 = 9999; about 5 3 = 9999");
        Edge.test(27, "KINDS, HOLDERS and DEPTHS of the new parts", TWO_RING + "wear 2 1; wear 3 1", "setOff = 24; about 4 0 = 1;"
            + "about 5 0 = 2; about 4 2 = 1; about 5 2 = 0; about 4 4 = 0; about 5 4 = 0; depth 4 0 = 5; depth 4 1 = 5;"
            + "depth 4 2 = 0; depth 4 39 = 0; depth 5 1 = 5; depth 5 2 = 0; holder 4 0 = 1; holder 5 0 = 0");
    }

    private static String grains(int first, int last) {
        StringBuilder calls = new StringBuilder();
        for (int grain = first; grain <= last; grain++) {
            calls.append("make ").append(grain).append(" 6;");
        }
        return calls.toString();
    }

    private static void toPay() {
        Edge.test(28, "no such PIECE", ALL_KINDS, "toPay -1 = BEYOND; toPay 4 = BEYOND; toPay " + MIN + " = BEYOND; toPay " + MAX
            + " = BEYOND; toPay 0 = 24");
        Edge.test(28, "KIND: no STOCK", ALL_KINDS, "toPay 1 = KIND; toPay 2 = KIND; toPay 3 = KIND; burn 1 = 0; toPay 1 = KIND");
        Edge.test(28, "NONE: of no PAIR", ONE, "lose 1 1 = 1; toPay 0 = NONE; lose 1 0 = 1; toPay 0 = 24; lose 0 1 = 1;"
            + "toPay 0 = NONE; burn 0 = 1; toPay 0 = NONE");
        Edge.test(28, "NONE: of a PAIR that is no DEBT", ONE, "pass 0 1 = 1; pairs = 1; toPay 0 = NONE; pass 0 0 = 2;"
            + "toPay 0 = 24; notch 0 0 5 1 = 0; notch 1 0 5 1 = 0; pairs = 1; toPay 0 = NONE");
        Edge.test(28, "the least", Sticks.debtOf(0, 1, 0, 1, 9, 1) + "day 9999", "toPay 0 = 1");
    }

    private static void late() {
        Edge.test(28, "LATE: on its DUE day, and 29, 30, 59, 60 behind it", Sticks.debt(0, 1, 0, 5, 1, 40),
            "toPay 0 = 60; day 40 = 40; toPay 0 = 60; day 41 = 1; toPay 0 = 60; day 69 = 28; toPay 0 = 60; day 70 = 1;"
            + "toPay 0 = 63; day 99 = 29; toPay 0 = 63; day 100 = 1; toPay 0 = 66");
        Edge.test(28, "LATE: a DUE day ahead of the DAY by 30 and more is not", Sticks.debt(0, 1, 0, 5, 1, 9999),
            "toPay 0 = 60; day 9969 = 9969; toPay 0 = 60; day 9999 = 30; toPay 0 = 60");
        Edge.test(28, "LATE: DUE on day 0", Sticks.debt(0, 1, 0, 5, 1, 0), "toPay 0 = 60; day 29 = 29; toPay 0 = 60; day 30 = 1;"
            + "toPay 0 = 63; day 9989 = 9959; toPay 0 = 1056; day 9990 = 1; toPay 0 = 1059; day 9999 = 9; toPay 0 = 1059");
        Edge.test(28, "LATE: 30 days at the last DAY", Sticks.debt(0, 1, 0, 5, 1, 9969) + Sticks.debt(2, 1, 0, 5, 2, 9970)
            + "day 9999", "toPay 0 = 63; toPay 2 = 60");
        Edge.test(28, "a twentieth of 19, 20", Sticks.debtOf(0, 1, 0, 1, 0, Sticks.join(new int[] {2}, Sticks.alike(7, 1)))
            + Sticks.debtOf(2, 1, 0, 2, 0, Sticks.join(new int[] {2}, Sticks.alike(8, 1))) + "day 30",
            "owes 1 0 = 39; toPay 0 = 19; toPay 2 = 21; day 9999 = 9969; toPay 0 = 19; toPay 2 = 353");
        Edge.test(28, "a twentieth is cut each", Sticks.debtOf(0, 1, 0, 1, 0, 2, 2, 2, 1, 1, 1)
            + Sticks.debtOf(2, 1, 0, 2, 0, 2, 2, 2, 1, 1, 1, 1) + "day 30", "toPay 0 = 40; toPay 2 = 42; day 60 = 30;"
            + "toPay 0 = 41; toPay 2 = 44; day 90 = 30; toPay 0 = 42; toPay 2 = 46");
        Edge.test(28, "LATE by the FOIL of THE PAIR", Sticks.debt(0, 2, 0, 5, 9, 0) + Sticks.debt(2, 3, 0, 5, 9, 60) + "day 60",
            "toPay 0 = 66; burn 1 = 0; other 0 = 3; toPay 0 = 60");
    }

    private static void payRefused() {
        Edge.test(29, "no such PIECE", ALL_KINDS, "pay -1 12 = BEYOND; pay 4 12 = BEYOND; pay " + MIN + " 12 = BEYOND; pay " + MAX
            + " 12 = BEYOND; pay 0 12 = 12");
        Edge.test(29, "least v", Sticks.debtOf(0, 1, 0, 1, 9, 2, 1), "pay 0 0 = BEYOND; pay 0 -1 = BEYOND; pay 0 " + MIN
            + " = BEYOND; pay 0 1 = 12; purse 0 -1 = 1001; purse 1 -1 = 999");
        Edge.test(29, "KIND: no STOCK", ALL_KINDS, "pay 1 12 = KIND; pay 2 12 = KIND; pay 3 12 = KIND");
        Edge.test(29, "NONE: of no DEBT", ONE, "lose 1 1 = 1; pay 0 12 = NONE; lose 1 0 = 1; pass 0 1 = 1; pay 0 12 = NONE;"
            + "pass 0 2 = 2; pay 0 12 = 12");
        Edge.test(29, "NONE: it was PAID", ONE + "pay 0 24", "pay 0 1 = NONE; pay 0 24 = NONE");
        Edge.test(29, "BEYOND is asked ahead of KIND and NONE", ALL_KINDS + "lose 0 1", "pay 1 0 = BEYOND; pay 3 -1 = BEYOND;"
            + "pay 0 0 = BEYOND");
        Edge.test(29, "KIND is asked ahead of NONE", ALL_KINDS + "burn 1", "pay 1 1 = KIND; pay 3 1 = KIND");
        Edge.test(29, "NONE is asked ahead of STATE and FULL", ONE + "lose 1 1;" + Sticks.filler(28), "pay 0 " + MAX
            + " = NONE; pay 0 12 = NONE");
        Edge.test(29, "STATE: less is TO PAY", ONE, "pay 0 25 = STATE; pay 0 " + MAX + " = STATE; pay 0 24 = 0");
        Edge.test(29, "STATE: less is TO PAY, of a LATE one", Sticks.debt(0, 1, 0, 5, 1, 0) + "day 30",
            "pay 0 64 = STATE; pay 0 63 = 0; purse 0 -1 = 1063; purse 1 -1 = 937");
        Edge.test(29, "STATE: the PURSE has less", ONE + "purse 1 23", "pay 0 24 = STATE; purse 1 24 = 23; pay 0 24 = 0;"
            + "purse 1 -1 = 0");
        Edge.test(29, "STATE: the PURSE has less, for a part", ONE + "purse 1 11", "pay 0 12 = STATE; purse 1 12 = 11;"
            + "pay 0 12 = 12; purse 1 -1 = 0");
        Edge.test(29, "STATE: the PURSE is empty", Sticks.debtOf(0, 1, 0, 1, 9, 1) + "purse 1 0", "pay 0 1 = STATE; purse 1 1 = 0;"
            + "pay 0 1 = 0");
        Edge.test(29, "it is the PURSE of the FOIL's HOLDER", ONE + "purse 0 0; purse 2 0", "pay 0 24 = 0; purse 0 -1 = 24;"
            + "purse 1 -1 = 976");
    }

    private static void payRests() {
        Edge.test(29, "a rest of 9 can be COMPOSED, 10 and 11 can't", ONE, "pay 0 14 = STATE; pay 0 13 = STATE; pay 0 15 = 9;"
            + "about 2 5 = 9; about 2 7 = 9");
        Edge.test(29, "a rest of 1", ONE, "pay 0 23 = 1; about 2 7 = 1; cut 2 0 = 1; cut 2 1 = NONE; pay 2 1 = 0; count 7 = 0");
        Edge.test(29, "STATE: a rest below the least WORTH", "measure 1 2;" + ONE, "pay 0 23 = STATE; pay 0 22 = 2");
        Edge.test(29, "a rest that takes 40 PLACES", WIDE, "toPay 0 = 72240; pay 0 227 = 72013; cut 2 6 = 3602; cut 2 7 = 3901;"
            + "cut 2 8 = NONE; other 2 = 3");
        Edge.test(29, "STATE: a rest that takes 41 PLACES", WIDE, "pay 0 216 = STATE; pay 0 226 = STATE; pay 0 228 = 72012");
        Edge.test(29, "STATE: a rest that takes more than nine of a WIDTH", "purse 1 100000000; measure 4 3000;"
            + Sticks.debtOf(0, 1, 0, 1, 9, 4), "pay 0 600 = STATE; pay 0 840 = 2160; about 2 5 = 9");
        Edge.test(29, "what is LATE, too, is left", Sticks.debt(0, 1, 0, 5, 1, 10) + "day 70", "toPay 0 = 66; pay 0 60 = 6;"
            + "about 2 7 = 6; toPay 2 = 6");
        Edge.test(29, "the PROFILE: 5 deep, one PLACE between", "make 1 0; notch 0 2 3 9; notch 0 7 2 7; notch 0 20 1 8;"
            + "notch 0 30 1 1; split 0 1 9", "toPay 0 = 253; pay 0 1 = 252; cut 2 0 = 3; cut 2 1 = 402; cut 2 2 = NONE;"
            + "depth 2 0 = 5; depth 2 2 = 5; depth 2 3 = 0; depth 2 4 = 5; depth 2 5 = 5; depth 2 6 = 0; depth 2 30 = 0;"
            + "depth 3 5 = 5; depth 3 6 = 0");
    }

    private static void payRoom() {
        Edge.test(29, "the last room for a rest", ONE + Sticks.filler(26), "count 0 = 28; pay 0 12 = 12; count 0 = 30;"
            + "other 28 = 29; pay 28 11 = FULL; pay 28 12 = 0");
        Edge.test(29, "FULL: room for a STOCK alone", ONE + Sticks.filler(27), "count 0 = 29; pay 0 12 = FULL; purse 0 -1 = 1000;"
            + "purse 1 -1 = 1000; about 0 4 = 0");
        Edge.test(29, "FULL: no room at all", ONE + Sticks.filler(28), "count 0 = 30; pay 0 23 = FULL; pay 0 1 = STATE");
        Edge.test(29, "no room is needed to pay all", ONE + Sticks.filler(28), "pay 0 24 = 0; count 3 = 2");
        Edge.test(29, "BEYOND, KIND and STATE are asked ahead of FULL", ONE + Sticks.filler(28),
            "pay 0 0 = BEYOND; pay 1 12 = KIND; pay 0 25 = STATE; pay 0 14 = STATE; purse 1 11 = 1000; pay 0 12 = STATE");
    }

    private static void pay() {
        Edge.test(29, "all that is TO PAY, and 1 less", Sticks.debtOf(0, 1, 0, 1, 9, 2, 1) + Sticks.debtOf(2, 1, 0, 2, 9, 2, 1),
            "pay 0 13 = 0; count 0 = 4; about 0 4 = 2; about 1 4 = 2; pay 2 12 = 1; count 0 = 6; about 2 4 = 2; about 3 4 = 2");
        Edge.test(29, "the new parts", Sticks.debt(0, 1, 0, 2, 0, 10) + "day 7; pass 0 5; memo 1 4; make 2 6",
            "pay 0 12 = 12; about 4 0 = 1; about 5 0 = 2; about 4 1 = 1; about 5 1 = 1; about 4 2 = 5; about 5 2 = 1;"
            + "about 4 3 = 37; about 5 3 = 37; about 4 4 = 0; about 5 4 = 0; about 2 4 = 0; purse 5 -1 = 1012;"
            + "purse 0 -1 = 1000");
        Edge.test(29, "the least GRAIN that no PIECE ever had: all to 26", Sticks.debt(0, 1, 0, 2, 0, 10) + grains(1, 26),
            "count 0 = 28; pay 0 12 = 12; about 28 1 = 27; about 29 1 = 27");
        Edge.test(29, "the least GRAIN: the first PIECE alone had 0, the last 1", "make 0 6;" + Sticks.debt(1, 1, 0, 2, 2, 10)
            + "make 1 6", "pay 1 12 = 12; about 4 1 = 3; about 5 1 = 3");
        Edge.test(29, "a PURSE may go beyond what purse() can set", ONE + "purse 0 100000000",
            "pay 0 24 = 0; purse 0 -1 = 100000024; purse 0 100000000 = 100000024");
    }

    private static void payDue() {
        Edge.test(29, "DUE 30 days from the DAY: day 0", ONE, "pay 0 12 = 12; about 2 3 = 30; about 3 3 = 30");
        Edge.test(29, "DUE 9999 at most: 9998", ONE + "day 9968; purse 1 5000", "toPay 0 = 355; pay 0 343 = 12; about 2 3 = 9998;"
            + "about 3 3 = 9998");
        Edge.test(29, "DUE 9999 at most: 9999", ONE + "day 9969; purse 1 5000", "toPay 0 = 355; pay 0 343 = 12; about 2 3 = 9999;"
            + "about 3 3 = 9999");
        Edge.test(29, "DUE 9999 at most: 10000 is none", ONE + "day 9970; purse 1 5000", "toPay 0 = 356; pay 0 344 = 12;"
            + "about 2 3 = 9999; about 3 3 = 9999");
        Edge.test(29, "DUE 9999 at most: on the last DAY", ONE + "day 9999; purse 1 5000", "toPay 0 = 356; pay 0 344 = 12;"
            + "about 2 3 = 9999; toPay 2 = 12");
        Edge.test(29, "the rest is LATE from its own DUE on", Sticks.debt(0, 1, 0, 6, 1, 0) + "day 60; purse 1 5000",
            "toPay 0 = 78; pay 0 18 = 60; about 2 3 = 90; day 119 = 59; toPay 2 = 60; day 120 = 1; toPay 2 = 63");
    }

    private static void purse() {
        Edge.test(30, "least PARTY", "", "purse -1 5 = BEYOND; purse " + MIN + " 5 = BEYOND; purse -1 -1 = BEYOND;"
            + "purse 0 5 = 1000; purse 0 -1 = 5; purse 1 -1 = 1000");
        Edge.test(30, "greatest PARTY", "", "purse 8 5 = BEYOND; purse " + MAX + " 5 = BEYOND; purse 8 -1 = BEYOND;"
            + "purse 7 5 = 1000; purse 7 -1 = 5; purse 6 -1 = 1000");
        Edge.test(30, "v below 0: they stay", "", "purse 3 -1 = 1000; purse 3 " + MIN + " = 1000; purse 3 -1 = 1000");
        Edge.test(30, "v is 0: they go", "", "purse 3 0 = 1000; purse 3 -1 = 0; purse 3 0 = 0");
        Edge.test(30, "greatest v", "", "purse 3 100000001 = BEYOND; purse 3 " + MAX + " = BEYOND; purse 3 100000000 = 1000;"
            + "purse 3 100000001 = BEYOND; purse 3 -1 = 100000000");
    }
}
