import java.util.Arrays;
import java.util.TreeMap;

/**
 * One boundary case of a promise: calls at the edge with the answers that are due.
 * Each answer that is a finding is looked at further: it must be counted once, and have changed nothing else.
 */
final class Edge {
    private static final int LOW = -1000000000;
    private static final TreeMap<Integer, Integer> TESTS_OF = new TreeMap<>();

    private Edge() {
    }

    static void test(int promise, String what, String setup, String... rows) {
        TESTS_OF.merge(promise, 1, Integer::sum);
        Due.begin("promise " + promise + ", " + what);
        StringBuilder made = new StringBuilder(setup.isBlank() ? "" : setup + ";");
        TallyCourt court = Due.after(setup);
        Snapshot before = null;
        for (String row : String.join(";", rows).split(";")) {
            if (row.isBlank()) {
                continue;
            }
            String call = row.split("=")[0].trim();
            int due = Due.answer(row.split("=")[1].trim());
            Due.is(court, call, due);
            if (isFinding(due)) {
                before = before == null ? Snapshot.after(made.toString()) : before;
                changedNothing(made.toString(), call, due, before);
            } else {
                before = null;
            }
            made.append(call).append(';');
        }
        Due.begin("");
    }

    /** A sum that goes round may lie below these. */
    private static boolean isFinding(int answer) {
        return answer < LOW && answer >= LOW - 5;
    }

    private static void changedNothing(String made, String call, int finding, Snapshot before) {
        Snapshot.after(made + call).isSameAs(before, "after " + call);
        int[] found = Snapshot.found(made);
        found[LOW - finding]++;
        Due.holds("after " + call + ": found() tells one more of that finding alone",
            Arrays.equals(Snapshot.found(made + call), found));
    }

    /** Each promise from one to another must have had a test. */
    static void end(int first, int last) {
        for (int promise = first; promise <= last; promise++) {
            Due.holds("a boundary case of promise " + promise, TESTS_OF.containsKey(promise));
        }
        System.out.println("boundary cases by promise: " + TESTS_OF);
        Due.end();
    }
}
