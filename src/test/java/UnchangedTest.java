/** An act that answers a finding changes nothing but what found() tells; the findings are asked in their order. */
public final class UnchangedTest {
    // Stocks 0, 3, 6, 8 with foils 1, 4, 7, 9, memo 2, piece 5 uncut, piece 10 with a fault; 8 is lost, 9 burnt.
    private static final String STATE = "day 50; make 3 0; notch 0 0 3 5; notch 0 4 2 5; split 0 1 10; memo 1 2;"
        + "make 4 1; notch 3 0 2 5; notch 3 3 1 5; split 3 0 20; make 5 2; make 3 2; notch 6 0 1 5; split 6 2 30;"
        + "make 8 3; notch 8 0 4 7; split 8 4 40; lose 8 1; burn 9; make 9 5; notch 10 0 7 7; pass 6 5; pass 6 3;"
        + "column 1 30; column 2 9; tell 1; tell 4; slack 2; purse 1 700; measure 1 2;";

    private static final String[] FINDINGS = {
        "measure 6 5 = BEYOND", "measure 1 12 = BEYOND", "make 100 0 = BEYOND", "make 0 8 = BEYOND",
        "notch 0 39 2 5 = BEYOND", "notch 11 0 1 5 = BEYOND", "notch 9 0 1 5 = STATE", "notch 9 0 41 5 = BEYOND",
        "wear 0 10 = BEYOND", "wear 9 1 = STATE", "wear 9 0 = BEYOND", "split 5 8 9 = BEYOND", "split 0 8 9 = BEYOND",
        "split 0 1 9 = KIND", "split 9 1 9 = KIND", "split 8 1 9 = KIND", "split 5 1 9 = STATE", "split 10 1 9 = STATE",
        "memo 0 8 = BEYOND", "memo 0 1 = KIND", "memo 8 1 = KIND", "memo 9 1 = STATE", "as 0 4 = BEYOND", "as 0 2 = KIND",
        "as 9 3 = KIND", "lose 0 2 = BEYOND", "lose 0 0 = STATE", "lose 8 1 = STATE", "lose 9 0 = STATE", "burn 11 = BEYOND",
        "burn 9 = STATE", "about 0 8 = BEYOND", "about 11 0 = BEYOND", "depth 0 40 = BEYOND", "cut 0 -1 = BEYOND",
        "cut 0 2 = NONE", "cut 11 2 = BEYOND", "composed 0 = BEYOND", "composed 13 = STATE", "slack 4 = BEYOND",
        "apart 0 11 = BEYOND", "apart 1 11 = BEYOND", "apart 1 0 = KIND", "other 11 = BEYOND", "other 5 = KIND",
        "other 8 = NONE", "raised 11 = BEYOND", "raised 1 = KIND", "raised 0 = NONE", "day 49 = BEYOND", "day 10000 = BEYOND",
        "pass 0 8 = BEYOND", "pass 1 8 = BEYOND", "pass 1 1 = KIND", "pass 9 1 = KIND", "pass 0 0 = STATE", "pass 8 1 = STATE",
        "holder 0 10000 = BEYOND", "passing 2 0 = BEYOND", "passing 0 4 = BEYOND", "owes 1 1 = BEYOND", "net 8 = BEYOND",
        "ring -3 = BEYOND", "ring 2 = NONE", "toPay 11 = BEYOND", "toPay 1 = KIND", "toPay 8 = NONE", "pay 0 0 = BEYOND",
        "pay 1 0 = BEYOND", "pay 1 1 = KIND", "pay 8 1 = NONE", "pay 0 5000 = STATE", "pay 0 701 = STATE", "pay 0 1 = STATE",
        "purse 0 100000001 = BEYOND", "lay 11 = BEYOND", "column 0 1 = BEYOND", "column 1 1001 = BEYOND", "count 8 = BEYOND",
        "found 0 = BEYOND", "found 6 = BEYOND"};

    // Without its last cut stock 3 is worth 12, and what is left of 252 can be composed; but there is no room.
    private static final String ALL_FULL = STATE + "notch 3 3 1 0; notch 4 3 1 0;" + Sticks.filler(19) + "tell 5;".repeat(28);
    private static final String[] WHEN_FULL = {"make 0 0 = FULL", "memo 1 0 = FULL", "tell 4 = FULL", "setOff = FULL",
        "pay 0 13 = STATE", "pay 0 24 = FULL"};

    // 1 owes 0 254, 0 owes 1 24: what is left, 230, can't be composed.
    private static final String ODD = STATE + "measure 1 1; notch 3 5 1 5; notch 4 5 1 5; measure 1 5; measure 2 14;";

    public static void main(String[] args) {
        changesNothing(STATE, FINDINGS);
        changesNothing(ALL_FULL, WHEN_FULL);
        Due.are(Due.after(ODD), "owes 0 1 = 24; owes 1 0 = 254");
        changesNothing(ODD, "setOff = STATE");
        Due.end();
    }

    private static void changesNothing(String setup, String... rows) {
        Snapshot before = Snapshot.after(setup);
        for (String row : rows) {
            Due.are(Due.after(setup), row);
            String call = row.split("=")[0].trim();
            Snapshot.after(setup + call).isSameAs(before, "after " + call);
        }
    }
}
