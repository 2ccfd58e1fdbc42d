/** Debts: promises 24 to 30. */
public final class DebtsTest {
    public static void main(String[] args) {
        owes();
        net();
        ring();
        ringIsTheLeast();
        setOffBurnsAndCutsDown();
        setOffByNumbersOfStocks();
        setOffFindings();
        toPay();
        late();
        payAll();
        payAPart();
        payFindings();
        payTheEdges();
        payDue();
        purse();
        Due.end();
    }

    // Promise 24
    private static void owes() {
        Due.are(Due.after(Sticks.debt(0, 1, 0, 2, 1, 9) + Sticks.debt(2, 1, 0, 3, 2, 9) + Sticks.debt(4, 0, 1, 1, 3, 9)),
            "owes 1 0 = 60; owes 0 1 = 12; owes 0 2 = 0; owes 7 6 = 0; owes 0 0 = BEYOND; owes 8 0 = BEYOND; owes 0 8 = BEYOND;"
            + "owes -1 0 = BEYOND; owes 0 -1 = BEYOND; pass 0 3 = 1; owes 1 0 = 36; owes 1 3 = 24; pass 2 1 = 2; owes 1 0 = 0;"
            + "count 7 = 2; lose 1 1 = 1; owes 1 3 = 0; lose 1 0 = 1; owes 1 3 = 24; burn 0 = 0; owes 1 3 = 0; count 7 = 1");
        // Worn alike they still join, but the stock has no value; with a fault it has none, too.
        Due.are(Due.after(Sticks.debt(0, 1, 0, 2, 1, 9) + "wear 0 4; wear 1 4"), "pairs = 1; owes 1 0 = 0; count 7 = 0;"
            + "toPay 0 = NONE");
        Due.are(Due.after(Sticks.debt(0, 1, 0, 2, 1, 9) + "notch 0 0 6 9; notch 1 0 6 9"), "pairs = 1; owes 1 0 = 0; count 7 = 0;"
            + "pay 0 1 = NONE");
        // The value is the stock's, not the foil's.
        Due.are(Due.after(Sticks.debt(0, 1, 0, 1, 1, 9) + "slack 2; notch 0 3 1 2"), "pairs = 1; about 0 7 = 13; about 1 7 = 12;"
            + "owes 1 0 = 13");
    }

    // Promise 25
    private static void net() {
        Due.are(Due.after(Sticks.debt(0, 1, 0, 2, 1, 9) + Sticks.debt(2, 2, 1, 3, 2, 9) + Sticks.debt(4, 0, 2, 1, 3, 9)),
            "net 0 = 12; net 1 = 12; net 2 = -24; net 3 = 0; net 8 = BEYOND; net -1 = BEYOND; pass 0 3 = 1; net 0 = -12;"
            + "net 3 = 24");
    }

    // Promise 26
    private static void ring() {
        Due.are(Due.after(Sticks.debt(0, 1, 0, 2, 1, 9) + Sticks.debt(2, 0, 1, 3, 2, 9)), "ring -1 = 2; ring -2 = 24; ring 0 = 0;"
            + "ring 1 = 1; ring 2 = NONE; ring 2147483647 = NONE; ring -3 = BEYOND; ring -2147483648 = BEYOND; lose 0 1 = 1;"
            + "ring -1 = NONE; ring -2 = NONE; ring 0 = NONE; ring -3 = BEYOND");
        StringBuilder round = new StringBuilder();
        for (int party = 0; party < 8; party++) {
            round.append(Sticks.debt(2 * party, (party + 3) % 8, party, party == 5 ? 1 : 2, party, 9));
        }
        // Each owes the one three below it: 0 owes 5, 5 owes 2, ..
        Due.are(Due.after(round.toString()), "ring -1 = 8; ring -2 = 12; ring 0 = 0; ring 1 = 5; ring 2 = 2; ring 3 = 7;"
            + "ring 4 = 4; ring 5 = 1; ring 6 = 6; ring 7 = 3; ring 8 = NONE; burn 0 = 0; ring -1 = NONE");
    }

    private static void ringIsTheLeast() {
        // Rings 0 1 2 and 5 6: the fewest parties come first.
        String three = Sticks.debt(0, 0, 1, 1, 1, 9) + Sticks.debt(2, 1, 2, 1, 2, 9) + Sticks.debt(4, 2, 0, 1, 3, 9);
        Due.are(Due.after(three + Sticks.debt(6, 6, 5, 2, 4, 9) + Sticks.debt(8, 5, 6, 2, 5, 9)), "ring -1 = 2; ring 0 = 5;"
            + "ring 1 = 6; ring -2 = 24");
        // Rings 0 1 2 and 0 3 1, then 4 5 6 behind both: the least first, then second party.
        Due.are(Due.after(Sticks.debt(0, 0, 3, 1, 1, 9) + Sticks.debt(2, 3, 1, 1, 2, 9) + Sticks.debt(4, 1, 0, 1, 3, 9)),
            "ring 0 = 0; ring 1 = 3; ring 2 = 1");
        Due.are(Due.after(Sticks.debt(0, 0, 3, 1, 1, 9) + Sticks.debt(2, 3, 1, 1, 2, 9)
            + Sticks.debt(4, 1, 0, 1, 3, 9) + Sticks.debt(6, 3, 2, 1, 4, 9) + Sticks.debt(8, 2, 0, 1, 5, 9)),
            "ring 0 = 0; ring 1 = 3; ring 2 = 1");
        Due.are(Due.after(Sticks.debt(0, 0, 3, 1, 1, 9) + Sticks.debt(2, 3, 4, 1, 2, 9)
            + Sticks.debt(4, 4, 0, 1, 3, 9) + Sticks.debt(6, 0, 2, 1, 4, 9) + Sticks.debt(8, 2, 7, 1, 5, 9)
            + Sticks.debt(10, 7, 0, 1, 6, 9)),
            "ring 0 = 0; ring 1 = 2; ring 2 = 7");
        Due.are(Due.after(Sticks.debt(0, 5, 6, 1, 1, 9) + Sticks.debt(2, 6, 4, 1, 2, 9)
            + Sticks.debt(4, 4, 5, 1, 3, 9) + Sticks.debt(6, 3, 7, 1, 4, 9) + Sticks.debt(8, 7, 1, 1, 5, 9)
            + Sticks.debt(10, 1, 3, 1, 6, 9)),
            "ring 0 = 1; ring 1 = 3; ring 2 = 7");
    }

    // Promise 27
    private static void setOffBurnsAndCutsDown() {
        TallyCourt court = Due.after("day 4;" + Sticks.debt(0, 1, 0, 2, 0, 8) + Sticks.debt(2, 0, 1, 3, 1, 6));
        Due.are(court, "net 0 = -12; net 1 = 12; setOff = 24; count 0 = 6; about 0 4 = 2; about 1 4 = 2; about 2 4 = 2;"
            + "about 3 4 = 2; about 4 0 = 1; about 4 1 = 2; about 4 2 = 1; about 4 3 = 6; about 4 4 = 0; about 4 7 = 12;"
            + "about 5 0 = 2; about 5 1 = 2; about 5 2 = 0; about 5 3 = 6; about 5 4 = 0; depth 4 0 = 5; depth 4 1 = 5;"
            + "depth 4 2 = 0; depth 5 1 = 5; depth 5 2 = 0; other 4 = 5; net 0 = -12; net 1 = 12; ring -1 = NONE; setOff = NONE;"
            + "purse 0 -1 = 1000; purse 1 -1 = 1000");
        // Both debts alike: nothing new comes.
        Due.are(Due.after(Sticks.debt(0, 1, 0, 2, 0, 8) + Sticks.debt(2, 0, 1, 2, 1, 6)), "setOff = 24; count 0 = 4; count 3 = 4;"
            + "net 0 = 0");
        // The profile of a rest: 252 less 1 is 240 and 11, which can't be; 252 less 12 is 240.
        Due.are(Due.after("make 0 0; notch 0 0 3 9; notch 0 4 2 9; notch 0 10 1 7; split 0 1 7;" + Sticks.debt(2, 0, 1, 1, 4, 6)),
            "owes 1 0 = 253; setOff = 12; about 4 7 = 241; about 4 1 = 1; cut 4 0 = 3; cut 4 1 = 401; cut 4 2 = NONE;"
            + "depth 4 0 = 5; depth 4 3 = 0; depth 4 4 = 5; depth 4 5 = 0; depth 5 4 = 5; about 4 3 = 7; about 5 3 = 7");
        // What is left of a longer ring: new stocks come in the ring's order.
        Due.are(Due.after(Sticks.debt(0, 2, 0, 3, 9, 1) + Sticks.debt(2, 1, 2, 1, 8, 2) + Sticks.debt(4, 0, 1, 2, 7, 3)),
            "ring 1 = 1; ring 2 = 2; setOff = 12; count 0 = 10; about 6 2 = 1; about 6 3 = 3; about 6 1 = 0; about 8 2 = 0;"
            + "about 8 3 = 1; about 8 1 = 1; about 8 7 = 24; about 7 2 = 0; about 9 2 = 2");
        // The due day is that of the pair's foil, though another foil came with the stock.
        Due.are(Due.after(Sticks.debt(0, 2, 0, 2, 9, 1) + Sticks.debt(2, 3, 0, 2, 9, 55)
            + Sticks.debt(4, 0, 3, 1, 5, 3) + "burn 1"),
            "other 0 = 3; owes 3 0 = 24; setOff = 12; about 6 3 = 55; about 7 3 = 55; about 6 7 = 12; about 7 2 = 3");
    }

    private static void setOffByNumbersOfStocks() {
        // 1 owes 0: 12, 24, 36 in three sticks; 30 is not had in twelves, so 0 owes 1 two of 12 and pieces of 1.
        String three = Sticks.debt(0, 1, 0, 1, 1, 10) + Sticks.debt(2, 1, 0, 2, 2, 20) + Sticks.debt(4, 1, 0, 3, 3, 30);
        Due.are(Due.after(three + Sticks.debt(6, 0, 1, 4, 4, 40)), "owes 1 0 = 72; owes 0 1 = 48; setOff = 48; about 0 4 = 2;"
            + "about 2 4 = 2; about 4 4 = 2; about 6 4 = 2; count 0 = 10; about 8 7 = 24; about 8 3 = 30; owes 1 0 = 24;"
            + "owes 0 1 = 0");
        Due.are(Due.after(three + Sticks.debt(6, 0, 1, 1, 4, 40)), "setOff = 12; about 0 4 = 2; about 1 4 = 2; about 2 4 = 0;"
            + "about 4 4 = 0; count 0 = 8; owes 1 0 = 60");
        Due.are(Due.after(three + Sticks.debt(6, 0, 1, 2, 4, 40)), "setOff = 24; about 0 4 = 2; about 2 4 = 2; about 3 4 = 2;"
            + "about 4 4 = 0; count 0 = 10; about 8 7 = 12; about 8 3 = 20; other 8 = 9; owes 1 0 = 48");
        // Others' debts to the same creditor, and the debtor's to others, stay, though their stocks come first.
        Due.are(Due.after(Sticks.debt(0, 3, 0, 1, 1, 10) + Sticks.debt(2, 1, 4, 1, 2, 10)
            + Sticks.debt(4, 1, 0, 1, 3, 10) + Sticks.debt(6, 0, 1, 1, 4, 10)),
            "setOff = 12; about 0 4 = 0; about 2 4 = 0; about 4 4 = 2; about 6 4 = 2; count 0 = 8");
        // The least debts that there are.
        String one = "make 1 0; notch 0 0 1 5; split 0 1 9; make 2 1; notch 2 0 1 5; split 2 0 9;";
        Due.are(Due.after(one), "ring -1 = 2; ring -2 = 1; setOff = 1; count 3 = 4; count 0 = 4");
        // A memo of a burnt foil stays.
        Due.are(Due.after(Sticks.debt(0, 1, 0, 1, 1, 10) + Sticks.debt(2, 0, 1, 1, 2, 10) + "memo 1 5"),
            "setOff = 12; about 4 4 = 0; count 3 = 4");
    }

    private static void setOffFindings() {
        Due.are(new TallyCourt(), "setOff = NONE; found 2 = 1");
        // 12 less 1 is 11, which can't be composed.
        String odd = Sticks.debt(0, 1, 0, 1, 1, 10) + "make 2 1; notch 2 0 1 5; split 2 0 10;";
        Due.are(Due.after(odd), "ring -2 = 1; setOff = STATE; count 3 = 0; count 0 = 4; owes 1 0 = 12; owes 0 1 = 1;"
            + "found 3 = 1");
        // A rest of 1 can't be composed where the least worth is 2.
        Due.are(Due.after("measure 1 2; measure 2 3; make 1 0; notch 0 0 2 5; split 0 1 9; make 2 1; notch 2 0 1 5; split 2 0 9"),
            "ring -2 = 2; setOff = STATE; count 3 = 0");
        // One more piece than 28 leaves no room for two.
        TallyCourt full = Due.after(Sticks.debt(0, 1, 0, 2, 1, 10) + Sticks.debt(2, 0, 1, 1, 2, 10));
        for (int i = 4; i < 29; i++) {
            Due.is(full, "make 9 2", i);
        }
        Due.are(full, "setOff = FULL; count 3 = 0; owes 1 0 = 24; measure 1 5 = 1; setOff = FULL; found 4 = 2");
        TallyCourt room = Due.after(Sticks.debt(0, 1, 0, 2, 1, 10) + Sticks.debt(2, 0, 1, 1, 2, 10));
        for (int i = 4; i < 28; i++) {
            Due.is(room, "make 9 2", i);
        }
        Due.are(room, "setOff = 12; count 0 = 30");
        TallyCourt oddAndFull = Due.after(odd);
        for (int i = 4; i < 30; i++) {
            Due.is(oddAndFull, "make 9 2", i);
        }
        Due.are(oddAndFull, "setOff = STATE");
        // No room is needed where nothing is cut down.
        TallyCourt even = Due.after(Sticks.debt(0, 1, 0, 2, 1, 10) + Sticks.debt(2, 0, 1, 2, 2, 10));
        for (int i = 4; i < 30; i++) {
            Due.is(even, "make 9 2", i);
        }
        Due.are(even, "setOff = 24; count 0 = 30; count 3 = 4");
        // Two are to be cut down, and there is room for one.
        TallyCourt two = Due.after(Sticks.debt(0, 2, 0, 3, 9, 1) + Sticks.debt(2, 1, 2, 1, 8, 2) + Sticks.debt(4, 0, 1, 2, 7, 3));
        for (int i = 6; i < 27; i++) {
            Due.is(two, "make 9 2", i);
        }
        Due.are(two, "setOff = FULL; count 0 = 27; count 3 = 0");
    }

    // Promise 28
    private static void toPay() {
        Due.are(Due.after(Sticks.debt(0, 1, 0, 2, 1, 10)), "toPay 0 = 24; toPay 1 = KIND; toPay 2 = BEYOND; toPay -1 = BEYOND;"
            + "pass 0 1 = 1; toPay 0 = NONE; pass 0 2 = 2; toPay 0 = 24; make 1 1 = 2; toPay 2 = KIND; lose 1 1 = 1;"
            + "toPay 0 = NONE");
    }

    private static void late() {
        // 253 has a twentieth of 12.
        TallyCourt court = Due.after("make 7 0; notch 0 0 3 5; notch 0 4 2 5; notch 0 7 1 5; split 0 1 40");
        Due.are(court, "toPay 0 = 253; day 40 = 40; toPay 0 = 253; day 69 = 29; toPay 0 = 253; day 70 = 1; toPay 0 = 265;"
            + "day 99 = 29; toPay 0 = 265; day 100 = 1; toPay 0 = 277; owes 1 0 = 253; day 9999 = 9899; toPay 0 = 4225");
        // A twentieth of 19 is nothing.
        Due.are(Due.after("make 7 0; notch 0 0 2 5; notch 0 3 1 5; split 0 1 0; day 9000"), "toPay 0 = 13");
        // The pair's foil tells the due day, not the one that came with the stock.
        Due.are(Due.after(Sticks.debt(0, 2, 0, 5, 9, 0) + Sticks.debt(2, 3, 0, 5, 9, 90) + "day 90; burn 1"),
            "toPay 0 = 60; about 0 3 = 0");
    }

    // Promise 29
    private static void payAll() {
        Due.are(Due.after(Sticks.debt(0, 1, 0, 2, 1, 10)), "pay 0 24 = 0; about 0 4 = 2; about 1 4 = 2; count 0 = 2;"
            + "purse 0 -1 = 1024; purse 1 -1 = 976; pay 0 1 = NONE; count 7 = 0");
    }

    private static void payAPart() {
        Due.are(Due.after("day 7;" + Sticks.debt(0, 1, 0, 2, 0, 10) + "memo 1 6;"), "pay 0 13 = STATE; pay 0 12 = 12;"
            + "about 0 4 = 2; about 1 4 = 2; about 2 4 = 0; about 3 0 = 1; about 3 1 = 1; about 3 2 = 0; about 3 3 = 37;"
            + "about 3 4 = 0; about 3 7 = 12; about 4 0 = 2; about 4 1 = 1; about 4 2 = 1; about 4 3 = 37; other 3 = 4;"
            + "toPay 3 = 12; purse 0 -1 = 1012; purse 1 -1 = 988; pay 3 11 = 1; cut 5 0 = 1; cut 5 1 = NONE; about 5 1 = 2;"
            + "pay 5 1 = 0");
        // Late: 60 and 3 for each of two terms are 66; 6 of it paid leaves 60 as a new value.
        Due.are(Due.after(Sticks.debt(0, 1, 0, 5, 0, 10) + "day 70"), "toPay 0 = 66; pay 0 6 = 60; about 2 7 = 60;"
            + "about 2 3 = 100; toPay 2 = 60; day 130 = 60; toPay 2 = 63");
        // The holder is the one that the stock was passed to.
        Due.are(Due.after(Sticks.debt(0, 1, 0, 2, 0, 10) + "pass 0 5"), "pay 0 12 = 12; purse 5 -1 = 1012; purse 0 -1 = 1000;"
            + "about 2 2 = 5; about 3 2 = 1");
    }

    private static void payFindings() {
        Due.are(Due.after(Sticks.debt(0, 1, 0, 2, 1, 10)), "pay 0 0 = BEYOND; pay 0 -1 = BEYOND; pay 2 1 = BEYOND;"
            + "pay -1 1 = BEYOND; pay 1 0 = BEYOND; pay 1 1 = KIND; pay 0 25 = STATE; pay 0 2147483647 = STATE; pay 0 14 = STATE;"
            + "purse 1 11 = 1000; pay 0 12 = STATE; pay 0 24 = STATE; purse 1 12 = 11; pay 0 12 = 12; purse 1 -1 = 0;"
            + "pay 2 1 = STATE; found 3 = 6");
        TallyCourt full = Due.after(Sticks.debt(0, 1, 0, 2, 1, 10));
        for (int i = 2; i < 29; i++) {
            Due.is(full, "make 9 2", i);
        }
        Due.are(full, "pay 0 12 = FULL; purse 0 -1 = 1000; purse 1 -1 = 1000; about 0 4 = 0; pay 0 14 = STATE; pay 0 24 = 0;"
            + "found 4 = 1");
    }

    private static void payTheEdges() {
        // A rest of 1: it needs room, and a worth of 1.
        TallyCourt full = Due.after(Sticks.debt(0, 1, 0, 1, 1, 10) + "make 9 2;".repeat(27));
        Due.are(full, "pay 0 11 = FULL; about 0 4 = 0; measure 1 2 = 1; pay 0 11 = STATE; pay 0 12 = 0");
        // A rest of 72013 takes all 40 places.
        StringBuilder wide = new StringBuilder("make 0 0;");
        for (int i = 0; i < 6; i++) {
            wide.append("notch 0 ").append(6 * i).append(" 5 5;");
        }
        Due.are(Due.after(wide + "notch 0 36 3 5; split 0 1 9"), "toPay 0 = 72240; pay 0 227 = 72013; cut 2 6 = 3602;"
            + "cut 2 7 = 3901; about 2 7 = 72013; about 3 7 = 72013; other 2 = 3");
        // The grain of a piece that was never split, or is burnt, has been had.
        Due.are(Due.after("make 0 0; burn 0; make 2 0; notch 1 0 2 5; split 1 1 9; make 1 3"), "pay 1 4 = 8; about 4 1 = 3;"
            + "about 5 1 = 3");
    }

    private static void payDue() {
        Due.are(Due.after(Sticks.debt(0, 1, 0, 2, 1, 9999) + "day 9969"), "pay 0 12 = 12; about 2 3 = 9999");
        Due.are(Due.after(Sticks.debt(0, 1, 0, 2, 1, 9999) + "day 9968"), "pay 0 12 = 12; about 2 3 = 9998");
        Due.are(Due.after(Sticks.debt(0, 1, 0, 2, 1, 9999) + "day 9999"), "pay 0 12 = 12; about 2 3 = 9999; about 3 3 = 9999");
    }

    // Promise 30
    private static void purse() {
        Due.are(new TallyCourt(), "purse 0 5 = 1000; purse 0 -1 = 5; purse 0 -2147483648 = 5; purse 0 0 = 5;"
            + "purse 0 100000000 = 0; purse 0 100000001 = BEYOND; purse 8 5 = BEYOND; purse -1 5 = BEYOND; purse 7 -7 = 1000;"
            + "purse 0 -1 = 100000000");
        // A payment may lead beyond what can be set.
        Due.are(Due.after(Sticks.debt(0, 1, 0, 2, 1, 10) + "purse 0 100000000"), "pay 0 24 = 0; purse 0 -1 = 100000024");
    }
}
