/** Measures and wood: the boundary cases of promises 1 to 14, with those of Terms 1. */
public final class WoodEdgesTest {
    private static final String ONE = "make 7 3;";
    // A piece of value 240, ready to be split.
    private static final String THREE_WIDE = "make 7 3; notch 0 0 3 5;";
    // Stock 0, foil 1, memo 2, piece 3.
    private static final String ALL_KINDS = "make 7 3; notch 0 0 3 5; split 0 4 40; memo 1 2; make 9 1;";
    private static final String MAX = "2147483647";
    private static final String MIN = "-2147483648";

    public static void main(String[] args) {
        newObject();
        objectsStandApart();
        measure();
        make();
        notch();
        wear();
        split();
        splitStates();
        memo();
        as();
        lose();
        burn();
        about();
        faults();
        depth();
        cut();
        cutsFromDepth();
        composed();
        Edge.end(1, 14);
    }

    private static void newObject() {
        Edge.test(1, "no PIECES: there is no 0", "", "about 0 0 = BEYOND; notch 0 0 1 5 = BEYOND; wear 0 1 = BEYOND;"
            + "split 0 0 0 = BEYOND; memo 0 0 = BEYOND; as 0 0 = BEYOND; lose 0 1 = BEYOND; burn 0 = BEYOND; depth 0 0 = BEYOND;"
            + "cut 0 0 = BEYOND; apart 0 0 = BEYOND; other 0 = BEYOND; raised 0 = BEYOND; pass 0 0 = BEYOND; holder 0 0 = BEYOND;"
            + "toPay 0 = BEYOND; pay 0 1 = BEYOND; lay 0 = BEYOND; count 0 = 0; count 1 = 0; count 2 = 0; count 3 = 0");
        Edge.test(1, "DAY 0", "", "count 5 = 0; day -1 = BEYOND; day 0 = 0; count 5 = 0");
        Edge.test(1, "empty: no pairs, debts, rings, passings, numbers", "", "pairs = 0; count 7 = 0; ring -2 = NONE;"
            + "ring -1 = NONE; ring 0 = NONE; setOff = NONE; net 0 = 0; net 7 = 0; owes 0 7 = 0; owes 7 0 = 0; count 4 = 0;"
            + "passing 0 0 = BEYOND; count 6 = 0; check = 0");
        Edge.test(1, "nothing was found", "", "found 1 = 0; found 2 = 0; found 3 = 0; found 4 = 0; found 5 = 0");
        Edge.test(1, "WORTHS at first", "", "measure 1 1 = 1; measure 2 12 = 12; measure 3 240 = 240; measure 4 1200 = 1200;"
            + "measure 5 12000 = 12000");
        Edge.test(1, "SLACK at first", "", "slack 1 = 1");
        Edge.test(1, "COINS at first", "", "purse 0 -1 = 1000; purse 1 -1 = 1000; purse 2 -1 = 1000; purse 3 -1 = 1000;"
            + "purse 4 -1 = 1000; purse 5 -1 = 1000; purse 6 -1 = 1000; purse 7 -1 = 1000");
        Edge.test(1, "COUNTERS at first", "", "column 1 -1 = 0; column 2 -1 = 0; column 3 -1 = 0; column 4 -1 = 0;"
            + "column 5 -1 = 0; sum = 0; fewest = 0; reduce = 0");
    }

    private static void objectsStandApart() {
        Due.begin("promise 1, a new object has nothing of another one");
        TallyCourt one = Due.after(ALL_KINDS + "day 5; pass 0 1; measure 1 2; slack 3; purse 0 5; column 1 6; tell 1; burn 9");
        Due.are(new TallyCourt(), "count 0 = 0; count 4 = 0; count 5 = 0; count 6 = 0; measure 1 1 = 1; slack 1 = 1;"
            + "purse 0 -1 = 1000; column 1 -1 = 0; found 1 = 0; make 1 1 = 0");
        Due.are(one, "count 0 = 4; count 4 = 1; count 5 = 5; count 6 = 1; purse 0 -1 = 5; column 1 -1 = 6; found 1 = 1");
        Due.begin("");
    }

    private static void measure() {
        Edge.test(2, "least width", "", "measure 0 1 = BEYOND; measure -1 1 = BEYOND; measure " + MIN
            + " 1 = BEYOND; measure 1 2 = 1");
        Edge.test(2, "greatest width", "", "measure 6 13000 = BEYOND; measure " + MAX
            + " 13000 = BEYOND; measure 5 13000 = 12000");
        Edge.test(2, "least worth", "measure 1 2", "measure 1 0 = BEYOND; measure 1 -1 = BEYOND; measure 1 " + MIN
            + " = BEYOND; measure 1 1 = 2");
        Edge.test(2, "greatest worth", "", "measure 5 100001 = BEYOND; measure 5 " + MAX + " = BEYOND; measure 5 100000 = 12000;"
            + "measure 5 100000 = 100000");
        Edge.test(2, "not above the WIDTH below, 2", "", "measure 2 1 = BEYOND; measure 2 0 = BEYOND; measure 2 2 = 12");
        Edge.test(2, "not above the WIDTH below, 3", "", "measure 3 12 = BEYOND; measure 3 11 = BEYOND; measure 3 13 = 240");
        Edge.test(2, "not above the WIDTH below, 4", "", "measure 4 240 = BEYOND; measure 4 239 = BEYOND; measure 4 241 = 1200");
        Edge.test(2, "not above the WIDTH below, 5", "", "measure 5 1200 = BEYOND; measure 5 1199 = BEYOND;"
            + "measure 5 1201 = 12000");
        Edge.test(2, "not below the WIDTH above, 1", "", "measure 1 12 = BEYOND; measure 1 13 = BEYOND; measure 1 11 = 1");
        Edge.test(2, "not below the WIDTH above, 2", "", "measure 2 240 = BEYOND; measure 2 241 = BEYOND; measure 2 239 = 12");
        Edge.test(2, "not below the WIDTH above, 3", "", "measure 3 1200 = BEYOND; measure 3 1201 = BEYOND;"
            + "measure 3 1199 = 240");
        Edge.test(2, "not below the WIDTH above, 4", "", "measure 4 12000 = BEYOND; measure 4 12001 = BEYOND;"
            + "measure 4 11999 = 1200");
        Edge.test(2, "WORTHS of others are those of now", "measure 2 20; measure 4 300", "measure 1 20 = BEYOND; measure 1 19 = 1;"
            + "measure 3 300 = BEYOND; measure 3 299 = 240; measure 5 300 = BEYOND; measure 5 301 = 12000");
        Edge.test(2, "five as small as can be", "measure 2 2; measure 3 3; measure 4 4; measure 5 5",
            "measure 1 2 = BEYOND; measure 2 1 = BEYOND; measure 2 3 = BEYOND; measure 3 2 = BEYOND; measure 3 4 = BEYOND;"
            + "measure 4 3 = BEYOND; measure 4 5 = BEYOND; measure 5 4 = BEYOND; measure 3 3 = 3; measure 5 6 = 5");
        Edge.test(2, "five as great as can be", "measure 5 100000; measure 4 99999; measure 3 99998; measure 2 99997;"
            + "measure 1 99996", "measure 1 99997 = BEYOND; measure 2 99998 = BEYOND; measure 3 99999 = BEYOND;"
            + "measure 4 100000 = BEYOND; measure 5 99999 = BEYOND; measure 1 99995 = 99996");
        Edge.test(2, "the same again", "", "measure 3 240 = 240; measure 3 240 = 240");
    }

    private static void make() {
        Edge.test(3, "least GRAIN", "", "make -1 0 = BEYOND; make " + MIN + " 0 = BEYOND; make 0 0 = 0; about 0 1 = 0");
        Edge.test(3, "greatest GRAIN", "", "make 100 0 = BEYOND; make " + MAX + " 0 = BEYOND; make 99 0 = 0; about 0 1 = 99");
        Edge.test(3, "least PARTY", "", "make 1 -1 = BEYOND; make 1 " + MIN + " = BEYOND; make 1 0 = 0; about 0 2 = 0");
        Edge.test(3, "greatest PARTY", "", "make 1 8 = BEYOND; make 1 " + MAX + " = BEYOND; make 1 7 = 0; about 0 2 = 7");
        Edge.test(3, "30 PIECES", Sticks.filler(28), "make 1 1 = 28; make 2 2 = 29; make 3 3 = FULL; count 0 = 30;"
            + "about 29 1 = 2");
        Edge.test(3, "30 PIECES ever: BURNT and LOST ones count", Sticks.filler(30) + "burn 0; lose 1 1",
            "make 1 1 = FULL; count 0 = 30");
        Edge.test(3, "30 PIECES ever: FOILS and MEMOS count", ALL_KINDS + Sticks.filler(25), "make 1 1 = 29; make 1 1 = FULL");
        Edge.test(3, "BEYOND is asked ahead of FULL", Sticks.filler(30), "make 100 1 = BEYOND; make 1 8 = BEYOND;"
            + "make 1 1 = FULL");
        Edge.test(3, "uncut", "make 1 1", uncutPlaces());
        Edge.test(3, "uncut: no CUTS, FAULT, VALUE or DUE", "make 1 1", "about 0 0 = 0; about 0 3 = -1; about 0 4 = 0;"
            + "about 0 5 = 0; about 0 6 = -1; about 0 7 = 0");
    }

    private static String uncutPlaces() {
        StringBuilder rows = new StringBuilder();
        for (int place = 0; place < 40; place++) {
            rows.append("depth 0 ").append(place).append(" = 0;");
        }
        return rows.toString();
    }

    private static void notch() {
        Edge.test(4, "no such PIECE", ONE, "notch -1 0 1 5 = BEYOND; notch 1 0 1 5 = BEYOND; notch 30 0 1 5 = BEYOND; notch "
            + MIN + " 0 1 5 = BEYOND; notch " + MAX + " 0 1 5 = BEYOND; notch 0 0 1 5 = 1");
        Edge.test(4, "the last PIECE", Sticks.filler(30), "notch 30 0 1 5 = BEYOND; notch 29 0 1 5 = 1");
        Edge.test(4, "least place", ONE, "notch 0 -1 1 5 = BEYOND; notch 0 -1 2 5 = BEYOND; notch 0 " + MIN
            + " 1 5 = BEYOND; notch 0 0 1 5 = 1; depth 0 0 = 5; depth 0 1 = 0");
        Edge.test(4, "greatest place", ONE, "notch 0 40 1 5 = BEYOND; notch 0 " + MAX + " 1 5 = BEYOND; notch 0 39 1 5 = 1;"
            + "depth 0 39 = 5; depth 0 38 = 0");
        Edge.test(4, "least width", ONE, "notch 0 0 0 5 = BEYOND; notch 0 0 -1 5 = BEYOND; notch 0 39 0 5 = BEYOND; notch 0 0 "
            + MIN + " 5 = BEYOND; notch 0 0 1 5 = 1");
        Edge.test(4, "greatest width", ONE, "notch 0 0 41 5 = BEYOND; notch 0 0 " + MAX + " 5 = BEYOND; notch 0 0 40 5 = -1;"
            + "cut 0 0 = 40; depth 0 0 = 5; depth 0 39 = 5");
        Edge.test(4, "beyond 39: from 1 on", ONE, "notch 0 1 40 5 = BEYOND; notch 0 1 39 5 = -1; cut 0 0 = 139; depth 0 0 = 0");
        Edge.test(4, "beyond 39: from 20 on", ONE, "notch 0 20 21 5 = BEYOND; notch 0 20 20 5 = -1; cut 0 0 = 2020");
        Edge.test(4, "beyond 39: from 38 on", ONE, "notch 0 38 3 5 = BEYOND; notch 0 38 2 5 = 12; cut 0 0 = 3802");
        Edge.test(4, "beyond 39: from 39 on", ONE, "notch 0 39 2 5 = BEYOND; notch 0 39 40 5 = BEYOND; notch 0 39 1 5 = 1");
        Edge.test(4, "beyond 39, by sums that go round", ONE, "notch 0 " + MAX + " " + MAX + " 5 = BEYOND; notch 0 1 " + MAX
            + " 5 = BEYOND; notch 0 39 " + MAX + " 5 = BEYOND");
        Edge.test(4, "least DEPTH", "make 7 3; notch 0 0 1 5", "notch 0 0 1 -1 = BEYOND; notch 0 0 1 " + MIN
            + " = BEYOND; notch 0 0 1 0 = 0; depth 0 0 = 0");
        Edge.test(4, "greatest DEPTH", ONE, "notch 0 0 1 10 = BEYOND; notch 0 0 1 " + MAX + " = BEYOND; notch 0 0 1 9 = 1;"
            + "depth 0 0 = 9");
        Edge.test(4, "BURNT", THREE_WIDE + "burn 0", "notch 0 0 1 0 = STATE; notch 0 39 1 9 = STATE; depth 0 0 = 5");
        Edge.test(4, "LOST is not BURNT", THREE_WIDE + "lose 0 1", "notch 0 0 1 0 = 12");
        Edge.test(4, "any KIND", ALL_KINDS, "notch 0 4 1 5 = 241; notch 1 4 1 5 = 241; notch 2 4 1 5 = 241; notch 3 4 1 5 = 1");
        Edge.test(4, "BEYOND is asked ahead of STATE", ONE + "burn 0", "notch 0 40 1 5 = BEYOND; notch 0 0 0 5 = BEYOND;"
            + "notch 0 39 2 5 = BEYOND; notch 0 0 1 10 = BEYOND; notch 0 0 1 9 = STATE");
        Edge.test(4, "VALUE then: none, 0 and 1", ONE, "notch 0 0 1 1 = 0; notch 0 0 1 2 = 1; notch 0 0 5 2 = 12000;"
            + "notch 0 0 6 2 = -1; notch 0 0 40 1 = 0");
        Edge.test(4, "no other PLACES", ONE, "notch 0 10 3 7 = 240; depth 0 9 = 0; depth 0 10 = 7; depth 0 12 = 7;"
            + "depth 0 13 = 0");
    }

    private static void wear() {
        Edge.test(5, "least n", THREE_WIDE, "wear 0 0 = BEYOND; wear 0 -1 = BEYOND; wear 0 " + MIN + " = BEYOND; wear 0 1 = 3;"
            + "depth 0 0 = 4");
        Edge.test(5, "greatest n", "make 7 3; notch 0 0 3 9", "wear 0 10 = BEYOND; wear 0 " + MAX + " = BEYOND; wear 0 9 = 3;"
            + "depth 0 0 = 0");
        Edge.test(5, "not below 0", ONE + "notch 0 0 1 4; notch 0 1 1 5; notch 0 2 1 6", "wear 0 5 = 3; depth 0 0 = 0;"
            + "depth 0 1 = 0; depth 0 2 = 1; depth 0 3 = 0");
        Edge.test(5, "all PLACES change", "make 7 3; notch 0 0 40 1", "wear 0 9 = 40; wear 0 9 = 0");
        Edge.test(5, "the first and last PLACE change", ONE + "notch 0 0 1 2; notch 0 39 1 3", "wear 0 1 = 2; depth 0 0 = 1;"
            + "depth 0 39 = 2; wear 0 1 = 2; wear 0 1 = 1; wear 0 1 = 0");
        Edge.test(5, "no PLACE changes", ONE, "wear 0 1 = 0; wear 0 9 = 0");
        Edge.test(5, "no such PIECE", THREE_WIDE, "wear -1 1 = BEYOND; wear 1 1 = BEYOND; wear " + MIN + " 1 = BEYOND; wear "
            + MAX + " 1 = BEYOND; wear 0 1 = 3");
        Edge.test(5, "BURNT", THREE_WIDE + "burn 0", "wear 0 1 = STATE; wear 0 9 = STATE");
        Edge.test(5, "LOST is not BURNT", THREE_WIDE + "lose 0 1", "wear 0 1 = 3");
        Edge.test(5, "BEYOND is asked ahead of STATE", THREE_WIDE + "burn 0", "wear 0 0 = BEYOND; wear 0 10 = BEYOND");
    }

    private static void split() {
        Edge.test(6, "no such PIECE", THREE_WIDE, "split -1 4 40 = BEYOND; split 1 4 40 = BEYOND; split " + MIN
            + " 4 40 = BEYOND; split " + MAX + " 4 40 = BEYOND; split 0 4 40 = 1");
        Edge.test(6, "least PARTY", THREE_WIDE, "split 0 -1 40 = BEYOND; split 0 " + MIN + " 40 = BEYOND; split 0 0 40 = 1;"
            + "about 1 2 = 0; about 0 2 = 3");
        Edge.test(6, "greatest PARTY", THREE_WIDE, "split 0 8 40 = BEYOND; split 0 " + MAX + " 40 = BEYOND; split 0 7 40 = 1;"
            + "about 1 2 = 7; about 0 2 = 3");
        Edge.test(6, "the PARTY that has it", THREE_WIDE, "split 0 3 40 = 1; about 0 2 = 3; about 1 2 = 3");
        Edge.test(6, "least day", THREE_WIDE, "split 0 4 -1 = BEYOND; split 0 4 " + MIN + " = BEYOND; split 0 4 0 = 1;"
            + "about 1 3 = 0; about 0 3 = 0");
        Edge.test(6, "greatest day", THREE_WIDE, "split 0 4 10000 = BEYOND; split 0 4 " + MAX + " = BEYOND; split 0 4 9999 = 1;"
            + "about 1 3 = 9999; about 0 3 = 9999");
        Edge.test(6, "a DUE day ahead of the DAY", THREE_WIDE + "day 9999", "split 0 4 0 = 1; about 1 3 = 0");
        Edge.test(6, "KIND: a STOCK, FOIL, MEMO", ALL_KINDS, "split 0 4 40 = KIND; split 1 4 40 = KIND; split 2 4 40 = KIND");
        Edge.test(6, "BEYOND is asked ahead of KIND", ALL_KINDS, "split 0 8 40 = BEYOND; split 1 4 -1 = BEYOND;"
            + "split 2 4 10000 = BEYOND");
        Edge.test(6, "KIND is asked ahead of STATE", ALL_KINDS + "burn 0; lose 1 1; notch 2 0 3 0",
            "split 0 4 40 = KIND; split 1 4 40 = KIND; split 2 4 40 = KIND");
        Edge.test(6, "KIND is asked ahead of FULL", ALL_KINDS + Sticks.filler(26), "split 0 4 40 = KIND");
        Edge.test(6, "the PROFILE to its last PLACE", ONE + "notch 0 0 1 5; notch 0 38 1 1; notch 0 39 1 9",
            "split 0 4 40 = 1; depth 1 0 = 5; depth 1 37 = 0; depth 1 38 = 1; depth 1 39 = 9; about 1 7 = 2");
    }

    private static void splitStates() {
        Edge.test(6, "STATE: LOST", THREE_WIDE + "lose 0 1", "split 0 4 40 = STATE; lose 0 0 = 1; split 0 4 40 = 1");
        Edge.test(6, "STATE: BURNT", THREE_WIDE + "burn 0", "split 0 4 40 = STATE");
        Edge.test(6, "STATE: a FAULT", ONE + "notch 0 0 6 5", "split 0 4 40 = STATE; notch 0 5 1 1 = 12000; split 0 4 40 = 1");
        Edge.test(6, "STATE: VALUE 0, uncut", ONE, "split 0 4 40 = STATE");
        Edge.test(6, "STATE: VALUE 0, all PLACES of DEPTH 1", ONE + "notch 0 0 40 1", "split 0 4 40 = STATE; notch 0 39 1 2 = 1;"
            + "split 0 4 40 = 1; about 1 7 = 1");
        Edge.test(6, "BEYOND is asked ahead of STATE", ONE, "split 0 8 40 = BEYOND; split 0 4 10000 = BEYOND;"
            + "split 0 4 40 = STATE");
        Edge.test(6, "the last one that has room", THREE_WIDE + Sticks.filler(28), "count 0 = 29; split 0 4 40 = 29; count 0 = 30;"
            + "other 0 = 29");
        Edge.test(6, "FULL", THREE_WIDE + Sticks.filler(29), "split 0 4 40 = FULL; about 0 0 = 0; about 0 3 = -1");
        Edge.test(6, "STATE is asked ahead of FULL", Sticks.filler(30), "split 0 4 40 = STATE; notch 0 0 1 5 = 1;"
            + "split 0 4 40 = FULL");
    }

    private static void memo() {
        Edge.test(7, "no such PIECE", ALL_KINDS, "memo -1 1 = BEYOND; memo 4 1 = BEYOND; memo " + MIN + " 1 = BEYOND; memo " + MAX
            + " 1 = BEYOND; memo 1 1 = 4");
        Edge.test(7, "least PARTY", ALL_KINDS, "memo 1 -1 = BEYOND; memo 1 " + MIN + " = BEYOND; memo 1 0 = 4; about 4 2 = 0");
        Edge.test(7, "greatest PARTY", ALL_KINDS, "memo 1 8 = BEYOND; memo 1 " + MAX + " = BEYOND; memo 1 7 = 4; about 4 2 = 7");
        Edge.test(7, "KIND: a PIECE, a STOCK", ALL_KINDS, "memo 3 1 = KIND; memo 0 1 = KIND");
        Edge.test(7, "a MEMO is a FOIL", ALL_KINDS, "memo 2 1 = 4; about 4 0 = 3; memo 4 1 = 5; about 5 0 = 3");
        Edge.test(7, "STATE: LOST", ALL_KINDS + "lose 1 1; lose 2 1", "memo 1 1 = STATE; memo 2 1 = STATE");
        Edge.test(7, "STATE: BURNT", ALL_KINDS + "burn 1; burn 2", "memo 1 1 = STATE; memo 2 1 = STATE");
        Edge.test(7, "BEYOND is asked ahead of KIND", ALL_KINDS, "memo 0 8 = BEYOND; memo 3 -1 = BEYOND");
        Edge.test(7, "KIND is asked ahead of STATE", ALL_KINDS + "burn 0; lose 3 1", "memo 0 1 = KIND; memo 3 1 = KIND");
        Edge.test(7, "the last one that has room", ALL_KINDS + Sticks.filler(25), "count 0 = 29; memo 1 1 = 29; memo 1 1 = FULL;"
            + "memo 2 1 = FULL");
        Edge.test(7, "BEYOND, KIND and STATE are asked ahead of FULL", ALL_KINDS + Sticks.filler(26) + "lose 1 1",
            "memo 1 8 = BEYOND; memo 0 1 = KIND; memo 1 1 = STATE; memo 2 1 = FULL");
        Edge.test(7, "as it has now", ALL_KINDS + "wear 1 4; notch 1 39 1 9", "memo 1 1 = 4; depth 4 0 = 1; depth 4 39 = 9;"
            + "about 4 1 = 7; about 4 3 = 40; depth 2 0 = 5; depth 2 39 = 0");
        Edge.test(7, "a FOIL without a CUT", ALL_KINDS + "wear 1 9", "memo 1 1 = 4; about 4 5 = 0");
    }

    private static void as() {
        Edge.test(8, "no such PIECE", ALL_KINDS, "as -1 0 = BEYOND; as 4 0 = BEYOND; as " + MIN + " 0 = BEYOND; as " + MAX
            + " 0 = BEYOND; as 3 0 = 9; as 0 0 = 7");
        Edge.test(8, "least kind", ALL_KINDS, "as 3 -1 = BEYOND; as 3 " + MIN + " = BEYOND; as 3 0 = 9");
        Edge.test(8, "greatest kind", ALL_KINDS, "as 2 4 = BEYOND; as 2 " + MAX + " = BEYOND; as 2 3 = 7");
        Edge.test(8, "all are PIECES", ALL_KINDS, "as 0 0 = 7; as 1 0 = 7; as 2 0 = 7; as 3 0 = 9");
        Edge.test(8, "STOCKS", ALL_KINDS, "as 0 1 = 7; as 1 1 = KIND; as 2 1 = KIND; as 3 1 = KIND");
        Edge.test(8, "FOILS: a MEMO is one", ALL_KINDS, "as 0 2 = KIND; as 1 2 = 7; as 2 2 = 7; as 3 2 = KIND");
        Edge.test(8, "MEMOS: a FOIL is none", ALL_KINDS, "as 0 3 = KIND; as 1 3 = KIND; as 2 3 = 7; as 3 3 = KIND");
        Edge.test(8, "least and greatest GRAIN", "make 0 1; make 99 1", "as 0 0 = 0; as 1 0 = 99");
        Edge.test(8, "LOST and BURNT ones too", ALL_KINDS + "lose 0 1; burn 1", "as 0 1 = 7; as 1 2 = 7; as 1 3 = KIND");
    }

    private static void lose() {
        Edge.test(9, "no such PIECE", ONE, "lose -1 1 = BEYOND; lose 1 1 = BEYOND; lose " + MIN + " 1 = BEYOND; lose " + MAX
            + " 1 = BEYOND; lose 0 1 = 1");
        Edge.test(9, "neither 0 nor 1", ONE, "lose 0 -1 = BEYOND; lose 0 2 = BEYOND; lose 0 " + MIN + " = BEYOND; lose 0 " + MAX
            + " = BEYOND; about 0 4 = 0");
        Edge.test(9, "STATE: a HELD one HELD again", ONE, "lose 0 0 = STATE; about 0 4 = 0; lose 0 1 = 1; about 0 4 = 1");
        Edge.test(9, "STATE: a LOST one LOST again", ONE + "lose 0 1", "lose 0 1 = STATE; about 0 4 = 1; lose 0 0 = 1;"
            + "about 0 4 = 0");
        Edge.test(9, "STATE: a BURNT one", ONE + "burn 0", "lose 0 0 = STATE; lose 0 1 = STATE; about 0 4 = 2");
        Edge.test(9, "STATE: one BURNT when LOST", ONE + "lose 0 1; burn 0", "lose 0 0 = STATE; lose 0 1 = STATE; about 0 4 = 2");
        Edge.test(9, "BEYOND is asked ahead of STATE", ONE + "burn 0", "lose 0 2 = BEYOND; lose 0 -1 = BEYOND");
        Edge.test(9, "any KIND", ALL_KINDS, "lose 0 1 = 1; lose 1 1 = 1; lose 2 1 = 1; lose 3 1 = 1; count 2 = 4; count 1 = 0");
    }

    private static void burn() {
        Edge.test(10, "no such PIECE", ONE, "burn -1 = BEYOND; burn 1 = BEYOND; burn 30 = BEYOND; burn " + MIN
            + " = BEYOND; burn " + MAX + " = BEYOND; burn 0 = 0");
        Edge.test(10, "it was HELD", ONE, "burn 0 = 0; about 0 4 = 2");
        Edge.test(10, "it was LOST", ONE + "lose 0 1", "burn 0 = 1; about 0 4 = 2");
        Edge.test(10, "STATE: it is BURNT", ONE + "burn 0", "burn 0 = STATE; count 3 = 1");
        Edge.test(10, "one part alone", ALL_KINDS, "burn 0 = 0; about 1 4 = 0; about 2 4 = 0; count 3 = 1");
    }

    private static void about() {
        Edge.test(11, "no such PIECE", ONE, "about -1 0 = BEYOND; about 1 0 = BEYOND; about " + MIN + " 0 = BEYOND; about " + MAX
            + " 0 = BEYOND; about 0 0 = 0");
        Edge.test(11, "the last PIECE", Sticks.filler(30), "about 30 1 = BEYOND; about 29 1 = 99");
        Edge.test(11, "least what", ONE, "about 0 -1 = BEYOND; about 0 " + MIN + " = BEYOND; about 0 0 = 0");
        Edge.test(11, "greatest what", ONE, "about 0 8 = BEYOND; about 0 " + MAX + " = BEYOND; about 0 7 = 0");
        Edge.test(11, "DUE of a PIECE, STOCK, FOIL, MEMO", ALL_KINDS, "about 3 3 = -1; about 0 3 = 40; about 1 3 = 40;"
            + "about 2 3 = 40");
        Edge.test(11, "KINDS", ALL_KINDS, "about 3 0 = 0; about 0 0 = 1; about 1 0 = 2; about 2 0 = 3");
        Edge.test(11, "no CUTS and the most", ONE, "about 0 5 = 0; " + combRows() + "about 0 5 = 20");
        Edge.test(11, "VALUE 0 is one, with a FAULT there is none", ONE, "about 0 7 = 0; notch 0 0 40 9 = -1; about 0 7 = -1");
        Edge.test(11, "the greatest VALUE", greatestValue(), "about 0 7 = 1599945; about 0 6 = -1; about 0 5 = 16;"
            + "depth 0 39 = 5");
    }

    /** CUTS at every second PLACE, from 1 on. */
    private static String combRows() {
        StringBuilder rows = new StringBuilder();
        for (int i = 0; i < 20; i++) {
            rows.append("notch 0 ").append(2 * i + 1).append(" 1 2 = ").append(i < 9 ? i + 1 : -1).append(';');
        }
        return rows.toString();
    }

    /** No more CUTS than these can be without a FAULT; they take all PLACES, at the greatest WORTHS that there can be. */
    private static String greatestValue() {
        return "measure 5 100000; measure 4 99999; measure 3 99998; measure 2 99997; measure 1 99996;" + ONE
            + Sticks.cuts(0, 3, 3, 2, 2, 2, 2, 2, 1, 1, 1, 1, 1, 1, 1, 1, 1);
    }

    private static void faults() {
        Edge.test(11, "FAULT: wider than 5", ONE, "notch 0 0 5 5 = 12000; about 0 6 = -1; notch 0 5 1 5 = -1; about 0 6 = 0;"
            + "about 0 5 = 1");
        Edge.test(11, "FAULT: wider than 5 behind a CUT of 5", ONE, "notch 0 0 5 5 = 12000; notch 0 6 5 5 = 24000;"
            + "notch 0 11 1 5 = -1; about 0 6 = 6");
        Edge.test(11, "FAULT: wider than the CUT ahead", ONE, "notch 0 0 2 5 = 12; notch 0 3 2 5 = 24; about 0 6 = -1;"
            + "notch 0 5 1 5 = -1; about 0 6 = 3");
        Edge.test(11, "FAULT: wider than the CUT ahead, not than the first", ONE, "notch 0 0 3 5 = 240; notch 0 4 1 5 = 241;"
            + "notch 0 6 2 5 = -1; about 0 6 = 6");
        Edge.test(11, "FAULT: the tenth of WIDTH 1", ONE + Sticks.cuts(0, Sticks.alike(9, 1)), "about 0 6 = -1; about 0 7 = 9;"
            + "notch 0 39 1 5 = -1; about 0 6 = 39");
        Edge.test(11, "FAULT: the tenth of WIDTH 2", ONE + Sticks.cuts(0, Sticks.alike(9, 2)), "about 0 6 = -1; about 0 7 = 108;"
            + "notch 0 38 2 5 = -1; about 0 6 = 38");
        Edge.test(11, "FAULT: the tenth of WIDTH 3", ONE + Sticks.cuts(0, Sticks.alike(9, 3)), "about 0 6 = -1; about 0 7 = 2160;"
            + "notch 0 37 3 5 = -1; about 0 6 = 37");
        Edge.test(11, "no FAULT: nine of one WIDTH behind some of another", ONE
            + Sticks.cuts(0, Sticks.join(Sticks.alike(7, 2), Sticks.alike(9, 1))), "about 0 6 = -1; about 0 7 = 93;"
            + "about 0 5 = 16");
        Edge.test(11, "FAULT: the first of several", ONE + "notch 0 0 1 5; notch 0 2 2 5; notch 0 5 6 5",
            "about 0 6 = 2; notch 0 2 2 0 = -1; about 0 6 = 5");
        Edge.test(11, "FAULT at the first PLACE is not none", ONE + "notch 0 0 40 5", "about 0 6 = 0; about 0 7 = -1");
        Edge.test(11, "no FAULT: each WIDTH once", ONE + Sticks.cuts(0, 5, 4, 3, 2, 1), "about 0 6 = -1; about 0 7 = 13453");
    }

    private static void depth() {
        Edge.test(12, "least place", ONE + "notch 0 0 1 9", "depth 0 -1 = BEYOND; depth 0 " + MIN + " = BEYOND; depth 0 0 = 9;"
            + "depth 0 1 = 0");
        Edge.test(12, "greatest place", ONE + "notch 0 39 1 9", "depth 0 40 = BEYOND; depth 0 " + MAX
            + " = BEYOND; depth 0 39 = 9; depth 0 38 = 0");
        Edge.test(12, "no such PIECE", ONE, "depth -1 0 = BEYOND; depth 1 0 = BEYOND; depth " + MIN + " 0 = BEYOND; depth " + MAX
            + " 0 = BEYOND; depth 0 0 = 0");
        Edge.test(12, "LOST and BURNT ones too", THREE_WIDE + "lose 0 1; burn 0", "depth 0 2 = 5; depth 0 3 = 0");
    }

    private static void cut() {
        Edge.test(13, "no such PIECE", THREE_WIDE, "cut -1 0 = BEYOND; cut 1 0 = BEYOND; cut " + MIN + " 0 = BEYOND; cut " + MAX
            + " 0 = BEYOND; cut 0 0 = 3");
        Edge.test(13, "least i", THREE_WIDE, "cut 0 -1 = BEYOND; cut 0 " + MIN + " = BEYOND; cut 0 0 = 3");
        Edge.test(13, "NONE: behind the last", THREE_WIDE, "cut 0 0 = 3; cut 0 1 = NONE; cut 0 20 = NONE; cut 0 40 = NONE; cut 0 "
            + MAX + " = NONE");
        Edge.test(13, "NONE: uncut", ONE, "cut 0 0 = NONE; cut 0 -1 = BEYOND");
        Edge.test(13, "the most CUTS", ONE, combRows() + "cut 0 0 = 101; cut 0 18 = 3701; cut 0 19 = 3901; cut 0 20 = NONE");
        Edge.test(13, "the widest CUT", ONE + "notch 0 0 40 9", "cut 0 0 = 40; cut 0 1 = NONE");
        Edge.test(13, "CUTS at both ends", ONE + "notch 0 0 1 2; notch 0 39 1 2", "cut 0 0 = 1; cut 0 1 = 3901; cut 0 2 = NONE");
        Edge.test(13, "BEYOND is asked ahead of NONE", ONE, "cut 1 5 = BEYOND; cut 1 -1 = BEYOND");
        Edge.test(13, "LOST and BURNT ones too", THREE_WIDE + "lose 0 1; burn 0", "cut 0 0 = 3; cut 0 1 = NONE");
    }

    private static void cutsFromDepth() {
        Edge.test(13, "a DEPTH of 2 is a CUT, 1 is none", ONE, "notch 0 4 1 1 = 0; cut 0 0 = NONE; notch 0 4 1 2 = 1;"
            + "cut 0 0 = 401; notch 0 4 1 9 = 1; cut 0 0 = 401");
        Edge.test(13, "as many PLACES as can be, of any DEPTHS from 2 on", ONE, "notch 0 4 1 2 = 1; notch 0 5 1 9 = 12;"
            + "notch 0 6 1 3 = 240; cut 0 0 = 403; cut 0 1 = NONE");
        Edge.test(13, "a PLACE of DEPTH 1 parts two CUTS", ONE + "notch 0 4 5 5", "notch 0 6 1 2 = 12000; cut 0 0 = 405;"
            + "notch 0 6 1 1 = 24; cut 0 0 = 402; cut 0 1 = 702; cut 0 2 = NONE");
        Edge.test(13, "wear to DEPTH 1 leaves no CUT", ONE + "notch 0 4 2 3", "wear 0 1 = 2; cut 0 0 = 402; wear 0 1 = 2;"
            + "cut 0 0 = NONE");
    }

    private static void composed() {
        Edge.test(14, "least v", "", "composed 0 = BEYOND; composed -1 = BEYOND; composed " + MIN + " = BEYOND; composed 1 = 1");
        Edge.test(14, "greatest v: taken, though no WORTHS can make it up", "", "composed 100000001 = BEYOND; composed " + MAX
            + " = BEYOND; composed 100000000 = STATE; measure 5 100000 = 12000; composed 100000000 = STATE;"
            + "composed 100000001 = BEYOND");
        Edge.test(14, "9 at most: of WIDTH 1", "", "composed 9 = 9; composed 10 = STATE; composed 11 = STATE; composed 12 = 1");
        Edge.test(14, "9 at most: of WIDTH 2, and the rest goes on", "measure 1 2; measure 2 3",
            "composed 27 = 9; composed 30 = STATE; composed 31 = 11");
        Edge.test(14, "9 at most: of WIDTH 3, and the rest goes on", "measure 1 2; measure 2 3; measure 3 5",
            "composed 45 = 9; composed 50 = 11");
        Edge.test(14, "something is left", "measure 1 3; measure 2 5", "composed 1 = STATE; composed 2 = STATE; composed 3 = 1;"
            + "composed 4 = STATE; composed 5 = 1; composed 6 = STATE; composed 7 = STATE; composed 8 = 2; composed 9 = STATE;"
            + "composed 10 = 2");
        Edge.test(14, "just below a WORTH", "measure 1 2; measure 2 4; measure 3 8; measure 4 16; measure 5 32",
            "composed 31 = STATE; composed 30 = 4; composed 32 = 1; composed 33 = STATE; composed 34 = 2");
        Edge.test(14, "40 PLACES: CUTS of WIDTH 5", "", "composed 72000 = 6; composed 84000 = STATE");
        Edge.test(14, "40 PLACES: behind six of WIDTH 5", "", "composed 72240 = 7; composed 72012 = 7; composed 72013 = 8;"
            + "composed 72014 = STATE; composed 72024 = STATE; composed 73200 = 7; composed 73201 = STATE; composed 72002 = 8;"
            + "composed 72003 = STATE");
        Edge.test(14, "40 PLACES: eight of WIDTH 4", "measure 4 1000; measure 5 100000",
            "composed 8000 = 8; composed 8001 = STATE; composed 9000 = STATE");
        Edge.test(14, "40 PLACES: 39, 40 and 41 of WIDTHS 2 and 1", "measure 2 10", "composed 88 = 16; composed 97 = 16;"
            + "composed 89 = STATE; composed 98 = STATE");
        Edge.test(14, "nothing stays of it", "", "composed 253 = 3; count 0 = 0; sum = 0; composed 253 = 3");
    }
}
