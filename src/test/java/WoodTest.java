/** Measures and wood: promises 1 to 14. */
public final class WoodTest {
    public static void main(String[] args) {
        newObject();
        measure();
        measureChangesValues();
        make();
        notch();
        faults();
        wear();
        split();
        memo();
        as();
        loseAndBurn();
        about();
        depth();
        cut();
        composed();
        Due.end();
    }

    // Promise 1
    private static void newObject() {
        Due.are(new TallyCourt(), "count 0 = 0; count 1 = 0; count 2 = 0; count 3 = 0; count 4 = 0; count 5 = 0;"
            + "count 6 = 0; count 7 = 0; found 1 = 0; found 2 = 0; found 3 = 0; found 4 = 0; found 5 = 0;"
            + "pairs = 0; sum = 0; fewest = 0; reduce = 0; check = 0; ring -1 = NONE; slack 1 = 1; purse 0 -1 = 1000;"
            + "purse 7 -1 = 1000; net 0 = 0; owes 0 7 = 0; about 0 0 = BEYOND; column 1 -1 = 0; column 5 -1 = 0");
    }

    // Promise 2
    private static void measure() {
        Due.are(new TallyCourt(), "measure 1 1 = 1; measure 2 12 = 12; measure 3 240 = 240; measure 4 1200 = 1200;"
            + "measure 5 12000 = 12000; measure 0 1 = BEYOND; measure 6 50000 = BEYOND; measure -1 1 = BEYOND;"
            + "measure 5 100000 = 12000; measure 5 100001 = BEYOND; measure 5 1200 = BEYOND; measure 5 1201 = 100000;"
            + "measure 1 0 = BEYOND; measure 1 -5 = BEYOND; measure 1 12 = BEYOND; measure 1 11 = 1;"
            + "measure 2 11 = BEYOND; measure 2 240 = BEYOND; measure 2 239 = 12; measure 2 12 = 239; found 1 = 10");
        Due.are(new TallyCourt(), "measure 2147483647 5 = BEYOND; measure -2147483648 5 = BEYOND;"
            + "measure 3 2147483647 = BEYOND; measure 3 -2147483648 = BEYOND; measure 3 240 = 240");
    }

    private static void measureChangesValues() {
        TallyCourt court = Due.after("make 1 0; notch 0 0 2 5; split 0 1 9");
        Due.are(court, "about 0 7 = 12; measure 2 20 = 12; about 0 7 = 20; about 1 7 = 20; owes 1 0 = 20; toPay 0 = 20");
    }

    // Promise 3
    private static void make() {
        TallyCourt court = new TallyCourt();
        Due.are(court, "make 0 0 = 0; make 99 7 = 1; make 99 7 = 2; make -1 0 = BEYOND; make 100 0 = BEYOND;"
            + "make 0 -1 = BEYOND; make 0 8 = BEYOND; count 0 = 3; about 1 0 = 0; about 1 1 = 99; about 1 2 = 7;"
            + "about 1 3 = -1; about 1 4 = 0; about 1 5 = 0; about 1 6 = -1; about 1 7 = 0; depth 1 0 = 0; depth 1 39 = 0");
        for (int i = 3; i < 30; i++) {
            Due.is(court, "make 5 3", i);
        }
        Due.are(court, "make 5 3 = FULL; make 100 3 = BEYOND; make 5 8 = BEYOND; count 0 = 30; found 4 = 1");
    }

    // Promise 4
    private static void notch() {
        Due.are(Due.after("make 1 0"), "notch 0 0 1 2 = 1; notch 0 0 1 1 = 0; notch 0 0 1 0 = 0; notch 0 0 40 9 = -1;"
            + "notch 0 0 40 0 = 0; notch 0 35 5 5 = 12000; notch 0 39 1 0 = 1200; notch 0 39 1 9 = 12000; about 0 5 = 1");
        Due.are(Due.after("make 1 0"), "notch 1 0 1 5 = BEYOND; notch -1 0 1 5 = BEYOND; notch 0 -1 1 5 = BEYOND;"
            + "notch 0 40 1 5 = BEYOND; notch 0 0 0 5 = BEYOND; notch 0 0 -1 5 = BEYOND; notch 0 0 41 5 = BEYOND;"
            + "notch 0 1 40 5 = BEYOND; notch 0 39 2 5 = BEYOND; notch 0 0 1 -1 = BEYOND; notch 0 0 1 10 = BEYOND;"
            + "notch 0 2147483647 2147483647 5 = BEYOND; notch 0 1 2147483647 5 = BEYOND; about 0 5 = 0; found 1 = 13;"
            + "lose 0 1 = 1; notch 0 0 2 5 = 12; burn 0 = 1; notch 0 0 2 0 = STATE; notch 0 0 0 0 = BEYOND; depth 0 0 = 5");
    }

    // Terms 1: cuts, the fault, value
    private static void faults() {
        Due.are(Due.after("make 1 0"), "notch 0 0 6 5 = -1; about 0 6 = 0; about 0 5 = 1; about 0 7 = -1");
        Due.are(Due.after("make 1 0"), "notch 0 3 5 5 = 12000; notch 0 9 5 2 = 24000; about 0 6 = -1");
        Due.are(Due.after("make 1 0"), "notch 0 3 1 5 = 1; notch 0 5 2 5 = -1; about 0 6 = 5; about 0 5 = 2");
        Due.are(Due.after("make 1 0"), "notch 0 0 2 5 = 12; notch 0 3 1 5 = 13; notch 0 5 2 5 = -1; about 0 6 = 5;"
            + "notch 0 3 1 1 = 24; about 0 5 = 2; notch 0 2 3 2 = -1; about 0 6 = 0; cut 0 0 = 7");
        TallyCourt threes = Due.after("make 1 0");
        for (int i = 0; i < 9; i++) {
            Due.is(threes, "notch 0 " + (4 * i) + " 3 5", 240 * (i + 1));
        }
        Due.are(threes, "notch 0 36 3 5 = -1; about 0 6 = 36; about 0 5 = 10; notch 0 36 1 0 = 2172; about 0 6 = -1");
        TallyCourt ones = Due.after("make 1 0");
        for (int i = 0; i < 20; i++) {
            Due.is(ones, "notch 0 " + (2 * i + 1) + " 1 9", i < 9 ? i + 1 : -1);
        }
        Due.are(ones, "about 0 5 = 20; about 0 6 = 19; cut 0 19 = 3901; cut 0 20 = NONE");
    }

    // Promise 5
    private static void wear() {
        Due.are(Due.after("make 1 0; notch 0 0 3 5; notch 0 4 2 3; notch 0 7 1 1"), "wear 0 1 = 6; depth 0 0 = 4;"
            + "depth 0 4 = 2; depth 0 7 = 0; about 0 7 = 252; wear 0 3 = 5; depth 0 0 = 1; depth 0 4 = 0; about 0 7 = 0;"
            + "wear 0 9 = 3; wear 0 9 = 0; wear 0 0 = BEYOND; wear 0 10 = BEYOND; wear 0 -1 = BEYOND; wear 1 1 = BEYOND;"
            + "wear -1 1 = BEYOND; notch 0 0 1 9 = 1; lose 0 1 = 1; wear 0 4 = 1; burn 0 = 1; wear 0 1 = STATE;"
            + "wear 0 0 = BEYOND; depth 0 0 = 5");
    }

    // Promise 6
    private static void split() {
        Due.are(Due.after("make 7 3; notch 0 0 3 5"), "split 0 4 40 = 1; about 0 0 = 1; about 0 1 = 7; about 0 2 = 3;"
            + "about 0 3 = 40; about 0 4 = 0; about 1 0 = 2; about 1 1 = 7; about 1 2 = 4; about 1 3 = 40; about 1 4 = 0;"
            + "about 1 7 = 240; depth 1 2 = 5; depth 1 3 = 0; notch 0 0 3 0 = 0; about 1 7 = 240");
        Due.are(Due.after("make 7 3; notch 0 0 3 5"), "split 1 4 40 = BEYOND; split -1 4 40 = BEYOND;"
            + "split 0 8 40 = BEYOND; split 0 -1 40 = BEYOND; split 0 4 -1 = BEYOND; split 0 4 10000 = BEYOND;"
            + "about 0 0 = 0; about 0 3 = -1; split 0 3 9999 = 1; split 0 4 40 = KIND; split 1 4 40 = KIND;"
            + "memo 1 0 = 2; split 2 4 40 = KIND; split 0 4 -1 = BEYOND; burn 0 = 0; split 0 4 40 = KIND");
        Due.are(Due.after("make 7 3"), "split 0 4 0 = STATE; notch 0 0 6 5 = -1; split 0 4 0 = STATE;"
            + "notch 0 0 1 0 = 12000; lose 0 1 = 1; split 0 4 0 = STATE; lose 0 0 = 1; burn 0 = 0; split 0 4 0 = STATE");
        TallyCourt room = Due.after("make 7 3; notch 0 0 3 5;" + "make 1 1;".repeat(28));
        Due.are(room, "split 0 4 40 = 29; count 0 = 30");
        TallyCourt full = Due.after("make 7 3; notch 0 0 3 5; make 1 1");
        for (int i = 2; i < 30; i++) {
            Due.is(full, "make 1 1", i);
        }
        Due.are(full, "split 0 4 40 = FULL; split 1 4 40 = STATE; about 0 0 = 0; about 0 3 = -1; found 4 = 1");
        Due.are(Due.after("day 100; make 7 3; notch 0 0 3 5"), "split 0 4 0 = 1; about 1 3 = 0");
    }

    // Promise 7
    private static void memo() {
        Due.are(Due.after("make 7 3; notch 0 0 3 5; split 0 4 40; wear 1 1"), "memo 1 6 = 2; about 2 0 = 3;"
            + "about 2 1 = 7; about 2 2 = 6; about 2 3 = 40; about 2 4 = 0; depth 2 0 = 4; memo 2 5 = 3; about 3 0 = 3;"
            + "wear 1 4 = 3; depth 2 0 = 4; depth 3 0 = 4; memo 0 1 = KIND; memo 4 1 = BEYOND; memo -1 1 = BEYOND;"
            + "memo 1 8 = BEYOND; memo 1 -1 = BEYOND; memo 0 8 = BEYOND; lose 1 1 = 1; memo 1 0 = STATE; lose 1 0 = 1;"
            + "burn 1 = 0; memo 1 0 = STATE; memo 2 0 = 4; burn 0 = 0; memo 0 1 = KIND; make 1 1 = 5; memo 5 1 = KIND");
        TallyCourt full = Due.after("make 7 3; notch 0 0 3 5; split 0 4 40");
        for (int i = 2; i < 30; i++) {
            Due.is(full, "memo 1 1", i);
        }
        Due.are(full, "memo 1 1 = FULL; memo 0 1 = KIND; lose 1 1 = 1; memo 1 1 = STATE; pairs = 0; lose 1 0 = 1; pairs = 1");
    }

    // Promise 8
    private static void as() {
        Due.are(Due.after("make 7 3; notch 0 0 3 5; split 0 4 40; memo 1 2; make 9 1"), "as 0 0 = 7; as 0 1 = 7;"
            + "as 0 2 = KIND; as 0 3 = KIND; as 1 0 = 7; as 1 1 = KIND; as 1 2 = 7; as 1 3 = KIND; as 2 0 = 7;"
            + "as 2 1 = KIND; as 2 2 = 7; as 2 3 = 7; as 3 0 = 9; as 3 1 = KIND; as 3 2 = KIND; as 3 3 = KIND;"
            + "as 3 4 = BEYOND; as 3 -1 = BEYOND; as 4 0 = BEYOND; as -1 0 = BEYOND; burn 3 = 0; as 3 0 = 9; found 5 = 8");
    }

    // Promises 9 and 10
    private static void loseAndBurn() {
        Due.are(Due.after("make 7 3"), "lose 0 0 = STATE; lose 0 1 = 1; about 0 4 = 1; lose 0 1 = STATE; lose 0 2 = BEYOND;"
            + "lose 0 -1 = BEYOND; lose 1 1 = BEYOND; lose -1 0 = BEYOND; count 2 = 1; lose 0 0 = 1; about 0 4 = 0;"
            + "count 1 = 1; burn 1 = BEYOND; burn -1 = BEYOND; burn 0 = 0; about 0 4 = 2; burn 0 = STATE; lose 0 1 = STATE;"
            + "lose 0 0 = STATE; lose 0 2 = BEYOND; make 1 1 = 1; lose 1 1 = 1; burn 1 = 1; count 3 = 2");
    }

    // Promise 11
    private static void about() {
        Due.are(Due.after("make 7 3; notch 0 0 3 5; notch 0 4 1 9"), "about 0 0 = 0; about 0 1 = 7; about 0 2 = 3;"
            + "about 0 3 = -1; about 0 4 = 0; about 0 5 = 2; about 0 6 = -1; about 0 7 = 241; about 0 8 = BEYOND;"
            + "about 0 -1 = BEYOND; about 1 0 = BEYOND; about -1 0 = BEYOND; about 30 0 = BEYOND; found 1 = 5");
    }

    // Promise 12
    private static void depth() {
        Due.are(Due.after("make 7 3; notch 0 39 1 9; notch 0 0 1 1"), "depth 0 39 = 9; depth 0 0 = 1; depth 0 1 = 0;"
            + "depth 0 40 = BEYOND; depth 0 -1 = BEYOND; depth 1 0 = BEYOND; depth -1 0 = BEYOND; burn 0 = 0; depth 0 39 = 9");
    }

    // Promise 13
    private static void cut() {
        Due.are(Due.after("make 7 3; notch 0 1 4 2; notch 0 30 10 9"), "cut 0 0 = 104; cut 0 1 = 3010; cut 0 2 = NONE;"
            + "cut 0 2147483647 = NONE; cut 0 -1 = BEYOND; cut 1 0 = BEYOND; cut -1 0 = BEYOND; notch 0 0 40 2 = -1;"
            + "cut 0 0 = 40; cut 0 1 = NONE; wear 0 1 = 40; cut 0 0 = NONE");
    }

    // Promise 14 and Terms 1: to compose
    private static void composed() {
        Due.are(new TallyCourt(), "composed 1 = 1; composed 9 = 9; composed 10 = STATE; composed 11 = STATE; composed 12 = 1;"
            + "composed 115 = 16; composed 116 = STATE; composed 117 = STATE; composed 118 = STATE; composed 240 = 1; composed 0 = BEYOND; composed -1 = BEYOND;"
            + "composed 100000001 = BEYOND; composed 100000000 = STATE; composed 72000 = 6; composed 84000 = STATE;"
            + "composed 72240 = 7; composed 72252 = STATE; composed 72241 = STATE; composed 72013 = 8; composed 72014 = STATE;"
            + "composed 72012 = 7; composed 72002 = 8; composed 72003 = STATE; composed 60001 = 6");
        Due.are(Due.after("measure 1 3; measure 2 5"), "composed 8 = 2; composed 9 = STATE; composed 6 = STATE;"
            + "composed 3 = 1; composed 1 = STATE; composed 10 = 2; composed 48 = 10; composed 45 = 9; composed 46 = STATE");
        Due.are(Due.after("measure 4 11999; measure 5 12001"), "composed 24000 = 2; composed 23999 = STATE; composed 12000 = 2");
    }
}
