import java.util.ArrayList;
import java.util.List;

/** Long runs of calls, the same ones each time, answered by the program and by the Model. */
public final class ModelTest {
    private static final int RUNS = 2000;
    private static final int TANGLES = 300;
    private static final int ROUNDS = 40;
    private static final int MOST_CALLS = 512;
    private static final String[] QUERIES = {"pairs", "sum", "fewest", "check", "reduce", "setOff", "found", "count", "ring",
        "net", "owes", "other", "raised", "toPay", "holder", "passing", "apart", "about", "cut", "depth", "composed", "as"};
    private static final String[] CHANGES = {"measure", "make", "notch", "wear", "split", "memo", "lose", "burn", "slack",
        "day", "pass", "pay", "purse", "lay", "column", "tell", "setOff"};

    private final Numbers numbers;
    private final TallyCourt court = new TallyCourt();
    private final Model model = new Model();
    private final List<String> made = new ArrayList<>();
    private final int grains;
    private final int parties;
    private int pieces = 0;

    private ModelTest(long seed) {
        numbers = new Numbers(seed);
        grains = 1 + numbers.below(5);
        parties = 2 + numbers.below(7);
    }

    /** A row of numbers that is the same for the same seed. */
    private static final class Numbers {
        private long state;

        Numbers(long seed) {
            state = seed * 0x9E3779B97F4A7C15L + 12345;
        }

        int below(int bound) {
            state = state * 6364136223846793005L + 1442695040888963407L;
            return (int) ((state >>> 33) % bound);
        }

        boolean oneIn(int n) {
            return below(n) == 0;
        }
    }

    public static void main(String[] args) {
        for (int seed = 0; seed < RUNS && Due.wrongSoFar() == 0; seed++) {
            new ModelTest(seed).run();
        }
        for (int seed = 0; seed < TANGLES && Due.wrongSoFar() == 0; seed++) {
            new ModelTest(seed).tangle();
        }
        for (int seed = 0; seed < ROUNDS && Due.wrongSoFar() == 0; seed++) {
            new ModelTest(seed).goRound();
        }
        Due.end();
    }

    /** A board that grows by reducing, until its worth goes round, once or twice. */
    private void goRound() {
        call("measure 5 100000");
        call("measure 4 " + (100000 / (2 + numbers.below(4))));
        call("measure 3 " + (1000 + numbers.below(3000)));
        call("measure 2 " + (20 + numbers.below(200)));
        call("measure 1 " + (1 + numbers.below(19)));
        while (made.size() < MOST_CALLS) {
            call("column 4 1000");
            call("reduce");
            call("sum");
            if (numbers.oneIn(4)) {
                call("column " + (1 + numbers.below(3)) + " " + numbers.below(1000));
            }
            call(numbers.oneIn(9) ? "column 5 -1" : "fewest");
        }
    }

    private void run() {
        int length = 40 + numbers.below(MOST_CALLS - 40);
        int sticksFirst = numbers.below(9);
        while (made.size() < length) {
            if (pieces < 28 && (sticksFirst > 0 || numbers.oneIn(25))) {
                sticksFirst--;
                makeDebt();
            } else if (numbers.oneIn(40)) {
                forge();
            } else {
                oneCall(numbers.oneIn(3) ? pick(CHANGES) : pick(QUERIES));
            }
        }
    }

    /** Up to 15 stocks and foils of one grain, whose depths vary at a few places: many ways to pair them. */
    private void tangle() {
        int sticks = numbers.oneIn(20) ? 15 : 3 + numbers.below(10);
        int places = 1 + numbers.below(3);
        int span = 2 + numbers.below(7);
        boolean stocksFirst = numbers.oneIn(2);
        for (int i = 0; i < sticks && stocksFirst; i++) {
            call("make 0 " + numbers.below(parties));
        }
        for (int i = 0; i < sticks; i++) {
            int stock = stocksFirst ? i : call("make 0 " + numbers.below(parties));
            call("notch " + stock + " 0 1 2");
            call("split " + stock + " " + numbers.below(parties) + " 9");
        }
        for (int piece = 0; piece < 2 * sticks; piece++) {
            for (int i = 0; i < places; i++) {
                call("notch " + piece + " " + (2 * i) + " 1 " + (2 + numbers.below(span)));
            }
        }
        for (int round = 0; round < 3; round++) {
            call("slack " + numbers.below(4));
            call("lose " + numbers.below(2 * sticks) + " " + numbers.below(2));
            call("pairs");
            for (int piece = 0; piece < 2 * sticks; piece++) {
                call("other " + piece);
                call("raised " + piece);
            }
        }
        call("count 7");
        call("ring -1");
        call("setOff");
        call("count 0");
    }

    private String pick(String[] names) {
        return names[numbers.below(names.length)];
    }

    /** What the Model answers; a finding beyond the last call that is promised. */
    private int call(String text) {
        if (made.size() >= MOST_CALLS) {
            return Due.FULL;
        }
        made.add(text);
        int got = Due.call(court, text);
        int want = model.call(text);
        if (got != want) {
            Due.same("after " + made + ": " + text, got, want);
        }
        pieces = model.call("count 0");
        return want;
    }

    private void makeDebt() {
        int number = pieces;
        call("make " + numbers.below(grains) + " " + numbers.below(parties));
        int place = 0;
        int width = 1 + numbers.below(4);
        for (int i = numbers.below(6); i >= 0 && width > 0 && place + width <= 40; i--) {
            call("notch " + number + " " + place + " " + width + " " + (4 + numbers.below(3)));
            place += width + 1;
            width -= numbers.oneIn(3) ? 1 : 0;
        }
        call("split " + number + " " + numbers.below(parties) + " " + numbers.below(200));
    }

    /** A small cut more, or a little less depth, on some piece: pairs part and raised stocks come. */
    private void forge() {
        call("notch " + numbers.below(pieces + 1) + " " + numbers.below(40) + " 1 " + numbers.below(10));
    }

    private void oneCall(String name) {
        int odd = numbers.oneIn(12) ? numbers.below(5) - 2 : 0;
        int wild = numbers.oneIn(200) ? (numbers.oneIn(2) ? Integer.MAX_VALUE : Integer.MIN_VALUE) : 0;
        int piece = wild != 0 ? wild : numbers.below(Math.max(1, pieces)) + odd;
        int party = numbers.below(parties) + (numbers.oneIn(20) ? 7 : 0);
        switch (name) {
            case "pairs", "sum", "fewest", "check", "reduce" -> call(name);
            case "setOff" -> setOffRarely();
            case "found" -> call(name + " " + numbers.below(8));
            case "count" -> call(name + " " + (numbers.below(10) - 1));
            case "ring" -> call(name + " " + (numbers.below(8) - 3));
            case "net" -> call(name + " " + party);
            case "owes" -> call(name + " " + party + " " + numbers.below(parties));
            case "other", "raised", "toPay", "lay" -> call(name + " " + piece);
            case "burn" -> burnRarely(piece);
            case "holder" -> call(name + " " + piece + " " + someDay());
            case "passing" -> call(name + " " + (numbers.below(20) - 1) + " " + (numbers.below(6) - 1));
            case "apart" -> call(name + " " + piece + " " + numbers.below(Math.max(1, pieces)));
            case "about" -> call(name + " " + piece + " " + (numbers.below(10) - 1));
            case "cut" -> call(name + " " + piece + " " + (numbers.below(8) - 1));
            case "depth" -> call(name + " " + piece + " " + (numbers.below(42) - 1));
            case "composed" -> call(name + " " + amount());
            case "as" -> call(name + " " + piece + " " + (numbers.below(6) - 1));
            case "measure" -> measure();
            case "make" -> call(name + " " + (numbers.oneIn(9) ? numbers.below(102) - 1 : numbers.below(grains)) + " " + party);
            case "notch" -> notch(piece);
            case "wear" -> call(name + " " + piece + " " + (numbers.oneIn(4) ? numbers.below(11) : 1));
            case "split" -> call(name + " " + piece + " " + party + " " + someDay());
            case "memo" -> call(name + " " + piece + " " + party);
            case "lose" -> call(name + " " + piece + " " + (numbers.oneIn(9) ? numbers.below(4) - 1 : numbers.below(2)));
            case "slack" -> call(name + " " + (numbers.below(6) - 1));
            case "day" -> call(name + " " + (model.call("count 5") + numbers.below(60) - (numbers.oneIn(5) ? 30 : 0)));
            case "pass" -> call(name + " " + piece + " " + party);
            case "pay" -> pay(piece);
            case "purse" -> call(name + " " + party + " " + (amount() - 1));
            case "column" -> call(name + " " + (numbers.below(7) + (numbers.oneIn(9) ? wild : 0)) + " "
                + (numbers.oneIn(9) ? numbers.below(1100) - 3 : numbers.below(60)));
            case "tell" -> tell();
            default -> throw new IllegalArgumentException(name);
        }
    }

    private void setOffRarely() {
        if (numbers.oneIn(4)) {
            call("setOff");
        }
    }

    private void burnRarely(int piece) {
        if (numbers.oneIn(3)) {
            call("burn " + piece);
        }
    }

    private int someDay() {
        return numbers.oneIn(9) ? numbers.below(10003) - 1 : numbers.below(400);
    }

    private int amount() {
        int[] bounds = {20, 300, 3000, 80000, 100000003};
        return numbers.below(bounds[numbers.below(bounds.length)]);
    }

    private void measure() {
        int[] bounds = {3, 15, 300, 2000, 100010};
        call("measure " + numbers.below(7) + " " + numbers.below(bounds[numbers.below(bounds.length)]));
    }

    private void notch(int piece) {
        int width = numbers.oneIn(15) ? numbers.below(43) : numbers.below(7);
        call("notch " + piece + " " + (numbers.below(42) - 1) + " " + width + " " + (numbers.below(12) - 1));
    }

    private void pay(int piece) {
        int claim = call("toPay " + piece);
        int v = claim > 0 && numbers.oneIn(2) ? claim - (numbers.oneIn(3) ? 0 : numbers.below(claim)) : amount();
        call("pay " + piece + " " + v);
    }

    /** Often what is due, so that check() is now and then content. */
    private void tell() {
        if (!numbers.oneIn(3)) {
            call("tell " + (numbers.below(pieces + 2) - 1));
            return;
        }
        call("check");
        for (int stock = 0; stock < pieces; stock++) {
            int foil = call("about " + stock + " 0") == 1 ? call("other " + stock) : -1;
            if (foil >= 0) {
                call("tell " + foil);
            }
        }
        call(numbers.oneIn(4) ? "tell 3" : "check");
        call("check");
    }
}
