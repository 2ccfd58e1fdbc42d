import java.util.ArrayList;
import java.util.List;
import java.util.Map;
import java.util.TreeMap;

/**
 * Every call with every mixture of arguments at, beside and far beyond the bounds of the document, in several states,
 * answered by the program and by the Model: which finding comes first, and that nothing is ever thrown.
 */
public final class GridTest {
    private static final int MOST_CALLS = 512;
    private static final int MAX = Integer.MAX_VALUE;
    private static final int MIN = Integer.MIN_VALUE;

    private static final int[] PIECE = {MIN, -1, 0, 1, 2, 3, 4, 5, 6, 7, 8, 29, 30, MAX};
    private static final int[] PARTY = {MIN, -1, 0, 1, 7, 8, MAX};
    private static final int[] DAY = {MIN, -1, 0, 49, 50, 51, 9999, 10000, MAX};
    private static final int[] AMOUNT = {MIN, -1, 0, 1, 11, 12, 13, 700, 701, 1000, 1001, 100000000, 100000001, MAX};
    private static final Map<String, int[][]> CALLS = new TreeMap<>(Map.ofEntries(
        call("measure", new int[] {MIN, -1, 0, 1, 2, 4, 5, 6, MAX},
            new int[] {MIN, -1, 0, 1, 11, 12, 13, 1200, 12000, 100000, 100001, MAX}),
        call("make", new int[] {MIN, -1, 0, 99, 100, MAX}, PARTY),
        call("notch", PIECE, new int[] {MIN, -1, 0, 1, 38, 39, 40, MAX}, new int[] {MIN, -1, 0, 1, 2, 39, 40, 41, MAX},
            new int[] {MIN, -1, 0, 1, 2, 9, 10, MAX}),
        call("wear", PIECE, new int[] {MIN, -1, 0, 1, 9, 10, MAX}),
        call("split", PIECE, PARTY, DAY),
        call("memo", PIECE, PARTY),
        call("as", PIECE, new int[] {MIN, -1, 0, 1, 2, 3, 4, MAX}),
        call("lose", PIECE, new int[] {MIN, -1, 0, 1, 2, MAX}),
        call("burn", PIECE),
        call("about", PIECE, new int[] {MIN, -1, 0, 1, 2, 3, 4, 5, 6, 7, 8, MAX}),
        call("depth", PIECE, new int[] {MIN, -1, 0, 1, 38, 39, 40, MAX}),
        call("cut", PIECE, new int[] {MIN, -1, 0, 1, 2, 19, 20, MAX}),
        call("composed", AMOUNT),
        call("slack", new int[] {MIN, -1, 0, 1, 2, 3, 4, MAX}),
        call("apart", PIECE, PIECE),
        call("pairs"),
        call("other", PIECE),
        call("raised", PIECE),
        call("day", DAY),
        call("pass", PIECE, PARTY),
        call("holder", PIECE, DAY),
        call("passing", new int[] {MIN, -1, 0, 1, 2, 79, 80, MAX}, new int[] {MIN, -1, 0, 1, 2, 3, 4, MAX}),
        call("owes", PARTY, PARTY),
        call("net", PARTY),
        call("ring", new int[] {MIN, -3, -2, -1, 0, 1, 2, 3, 7, 8, MAX}),
        call("setOff"),
        call("toPay", PIECE),
        call("pay", PIECE, AMOUNT),
        call("purse", PARTY, AMOUNT),
        call("lay", PIECE),
        call("column", new int[] {MIN, -1, 0, 1, 5, 6, MAX}, new int[] {MIN, -2, -1, 0, 1, 1000, 1001, MAX}),
        call("reduce"),
        call("sum"),
        call("fewest"),
        call("tell", new int[] {MIN, 0, MAX}),
        call("check"),
        call("count", new int[] {MIN, -1, 0, 1, 2, 3, 4, 5, 6, 7, 8, MAX}),
        call("found", new int[] {MIN, -1, 0, 1, 2, 3, 4, 5, 6, MAX})));

    // Stocks 0 and 3 with foils 1 and 4 owe one another, memo 2, piece 5 uncut, piece 6 with a fault, piece 7 to be split.
    private static final String MIXED = "day 50; make 3 0; notch 0 0 3 5; notch 0 4 2 5; split 0 1 10; memo 1 2;"
        + "make 4 1; notch 3 0 2 5; split 3 0 20; make 5 2; make 9 5; notch 6 0 7 7; make 8 7; notch 7 39 1 2;"
        + "pass 0 5; pass 0 0; column 1 30; tell 1; purse 1 700;";
    private static final Map<String, String> STATES = new TreeMap<>(Map.of(
        "new", "",
        "mixed", MIXED,
        "full of pieces and numbers", MIXED + Sticks.filler(22) + "tell 4;".repeat(29),
        "one piece short of full", MIXED + Sticks.filler(21),
        "full of passings", MIXED + "pass 0 1;pass 0 0;".repeat(39),
        "lost", MIXED + "lose 0 1; lose 1 1; lose 2 1; lose 3 1; lose 4 1; lose 5 1; lose 6 1; lose 7 1; day 9999;",
        "burnt", MIXED + "burn 0; burn 1; burn 2; burn 3; burn 4; burn 5; burn 6; burn 7;",
        "raised", MIXED + "notch 0 10 1 5; slack 0;",
        "late", MIXED + "day 9999; column 4 17;"));

    private final String setup;
    private TallyCourt court = null;
    private Model model = null;
    private int made = 0;

    private GridTest(String setup) {
        this.setup = setup;
    }

    private static Map.Entry<String, int[][]> call(String name, int[]... values) {
        return Map.entry(name, values);
    }

    public static void main(String[] args) {
        int all = 0;
        for (Map.Entry<String, String> state : STATES.entrySet()) {
            for (Map.Entry<String, int[][]> call : CALLS.entrySet()) {
                List<String> mixtures = mixtures(call.getKey(), call.getValue());
                Due.begin(state.getKey());
                new GridTest(state.getValue()).compare(mixtures);
                all += mixtures.size();
            }
        }
        System.out.println(all + " calls were compared");
        Due.end();
    }

    private static List<String> mixtures(String name, int[][] values) {
        List<String> all = new ArrayList<>(List.of(name));
        for (int[] ofArgument : values) {
            List<String> longer = new ArrayList<>();
            for (String text : all) {
                for (int value : ofArgument) {
                    longer.add(text + " " + value);
                }
            }
            all = longer;
        }
        return all;
    }

    /** A finding changes nothing, so the same objects go on; any other answer wants new ones. */
    private void compare(List<String> calls) {
        for (String call : calls) {
            if (court == null || made >= MOST_CALLS) {
                begin();
            }
            made++;
            int due = model.call(call);
            Due.is(court, call, due);
            if (due >= 0 || due == -1) {
                court = null;
            }
        }
    }

    private void begin() {
        court = Due.after(setup);
        model = new Model();
        made = 0;
        for (String call : setup.split(";")) {
            if (!call.isBlank()) {
                model.call(call.trim());
                made++;
            }
        }
    }
}
