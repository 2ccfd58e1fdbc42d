/** What is told: the boundary cases of promises 36 to 39. */
public final class ToldEdgesTest {
    // Stocks 0, 2 with foils 1, 3.
    private static final String TWO = Sticks.debt(0, 1, 0, 1, 5, 9) + Sticks.debt(2, 1, 0, 1, 6, 9);
    private static final String MAX = "2147483647";
    private static final String MIN = "-2147483648";

    public static void main(String[] args) {
        tell();
        check();
        checkFull();
        count();
        found();
        allCalls();
        Edge.end(36, 39);
    }

    private static void tell() {
        Edge.test(36, "the first", "", "count 6 = 0; tell 1 = 1; count 6 = 1");
        Edge.test(36, "30 wait", "tell 5;".repeat(28), "tell 5 = 29; tell 5 = 30; tell 5 = FULL; count 6 = 30; tell " + MAX
            + " = FULL");
        Edge.test(36, "any number", "", "tell " + MAX + " = 1; tell " + MIN + " = 2; tell -1 = 3; tell 0 = 4;"
            + "tell -1000000001 = 5");
        Edge.test(36, "none wait then", "tell 5;".repeat(30), "tell 5 = FULL; check = 99; count 6 = 0; tell 5 = 1");
    }

    private static void check() {
        Edge.test(37, "none wait, no PAIRS", "", "check = 0; check = 0");
        Edge.test(37, "more were told: no PAIRS", "", "tell 0 = 1; check = 99; count 6 = 0; check = 0");
        Edge.test(37, "missing: all", TWO, "check = 1; check = 1");
        Edge.test(37, "missing: the last", TWO, "tell 1 = 1; check = 2; count 6 = 0");
        Edge.test(37, "they are", TWO, "tell 1 = 1; tell 3 = 2; check = 0; count 6 = 0; check = 1");
        Edge.test(37, "the first isn't", TWO, "tell 3 = 1; tell 1 = 2; check = 1; count 6 = 0");
        Edge.test(37, "the first isn't, by 1", TWO, "tell 0 = 1; tell 3 = 2; check = 1; tell 2 = 1; tell 3 = 2; check = 1");
        Edge.test(37, "the last isn't", TWO, "tell 1 = 1; tell 2 = 2; check = 2; count 6 = 0");
        Edge.test(37, "more were told: one", TWO, "tell 1 = 1; tell 3 = 2; tell 3 = 3; check = 99; count 6 = 0");
        Edge.test(37, "one that isn't is told ahead of more", TWO, "tell 1 = 1; tell 2 = 2; tell 3 = 3; check = 2");
        Edge.test(37, "the numbers of an earlier check are gone", TWO, "tell 1 = 1; check = 2; tell 3 = 1; check = 1; tell 1 = 1;"
            + "tell 3 = 2; check = 0");
        Edge.test(37, "THE PAIRS of the check, not of the telling", TWO + "tell 1; tell 3; burn 0", "check = 1; tell 3 = 1;"
            + "check = 0");
        Edge.test(37, "no PAIR of LOST, BURNT or MEMO", TWO + "memo 1 4; lose 1 1; burn 2", "check = 0; tell 4 = 1; check = 99");
        Edge.test(37, "by numbers of STOCKS", Sticks.debt(0, 1, 0, 1, 5, 9) + Sticks.debt(2, 1, 0, 1, 5, 9)
            + "notch 3 0 2 6; notch 2 0 2 4", "tell 3 = 1; tell 1 = 2; check = 0; tell 1 = 1; tell 3 = 2; check = 1");
    }

    /** Fifteen pairs; told are the first `right` foils, then a number that none has, then more. */
    private static String fifteen(int right, int wrong, int more) {
        StringBuilder calls = new StringBuilder();
        for (int i = 0; i < 15; i++) {
            calls.append(Sticks.debtOf(2 * i, 1, 0, i, 9, 1));
        }
        for (int i = 0; i < right; i++) {
            calls.append("tell ").append(2 * i + 1).append(';');
        }
        return calls + "tell 30;".repeat(wrong) + "tell 29;".repeat(more);
    }

    private static void checkFull() {
        Edge.test(37, "the most PAIRS: they are", fifteen(15, 0, 0), "pairs = 15; count 6 = 15; check = 0; count 6 = 0");
        Edge.test(37, "the most PAIRS: the last is missing", fifteen(14, 0, 0), "check = 15");
        Edge.test(37, "the most PAIRS: the last isn't", fifteen(14, 1, 0), "check = 15");
        Edge.test(37, "the most PAIRS: all but the last, and more", fifteen(14, 1, 15), "count 6 = 30; check = 15; count 6 = 0");
        Edge.test(37, "the most PAIRS: one more was told", fifteen(15, 0, 1), "check = 99; count 6 = 0");
        Edge.test(37, "the most PAIRS: 30 were told", fifteen(15, 0, 15), "count 6 = 30; check = 99; count 6 = 0");
        Edge.test(37, "the most PAIRS: none was told", fifteen(0, 0, 0), "check = 1");
    }

    private static void count() {
        Edge.test(38, "least what", "make 1 1", "count -1 = BEYOND; count " + MIN + " = BEYOND; count 0 = 1");
        Edge.test(38, "greatest what", TWO, "count 8 = BEYOND; count " + MAX + " = BEYOND; count 7 = 2; count 6 = 0");
        Edge.test(38, "all at 0", "", "count 0 = 0; count 1 = 0; count 2 = 0; count 3 = 0; count 4 = 0; count 5 = 0; count 6 = 0;"
            + "count 7 = 0");
        Edge.test(38, "HELD, LOST, BURNT: all of one", Sticks.filler(30), "count 0 = 30; count 1 = 30; count 2 = 0; count 3 = 0");
        Edge.test(38, "HELD, LOST, BURNT: one each", Sticks.filler(3) + "lose 1 1; burn 2", "count 0 = 3; count 1 = 1;"
            + "count 2 = 1; count 3 = 1; lose 1 0 = 1; count 1 = 2; count 2 = 0; burn 1 = 0; count 3 = 2");
        Edge.test(38, "PASSINGS, the DAY, numbers", TWO + "pass 0 4; pass 0 5; day 9999; tell 4; tell 4; tell 4",
            "count 4 = 2; count 5 = 9999; count 6 = 3");
        Edge.test(38, "DEBTS: a PAIR of one HOLDER is none", TWO, "count 7 = 2; pass 0 1 = 1; pairs = 2; count 7 = 1;"
            + "pass 2 1 = 2; count 7 = 0");
        Edge.test(38, "DEBTS: the most", fifteen(0, 0, 0), "count 7 = 15");
    }

    private static void found() {
        Edge.test(39, "least k", "", "found 0 = BEYOND; found -1 = BEYOND; found " + MIN + " = BEYOND; found 1 = 3");
        Edge.test(39, "greatest k", "", "found 6 = BEYOND; found " + MAX + " = BEYOND; found 5 = 0; found 1 = 2");
        Edge.test(39, "another k is counted, too", "", "found 1 = 0; found 0 = BEYOND; found 1 = 1; found 6 = BEYOND; found 1 = 2;"
            + "found 1 = 2");
        Edge.test(39, "one of each", TWO + "tell 5;".repeat(30), "make 100 0 = BEYOND; cut 0 9 = NONE; lose 0 0 = STATE;"
            + "tell 5 = FULL; split 0 0 0 = KIND; found 1 = 1; found 2 = 1; found 3 = 1; found 4 = 1; found 5 = 1");
        Edge.test(39, "an answer of -1 is no finding", TWO + "make 1 1", "apart 0 3 = -1; notch 4 0 6 5 = -1; about 4 3 = -1;"
            + "about 4 7 = -1; found 1 = 0; found 2 = 0; found 3 = 0; found 4 = 0; found 5 = 0");
    }

    private static void allCalls() {
        Due.begin("promise 39, all calls of an object but its last one");
        TallyCourt court = new TallyCourt();
        for (int i = 0; i < 511; i++) {
            Due.is(court, "about 0 0", Due.BEYOND);
        }
        Due.is(court, "found 1", 511);
        Due.begin("");
    }
}
