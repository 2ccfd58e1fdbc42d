import java.util.ArrayList;
import java.util.List;

/** All that the face can tell of an object after some calls, but for what found() tells. */
final class Snapshot {
    private static final int MOST_CALLS = 512;
    // These change what they tell, so each is asked on an object of its own; the last call's answer counts.
    private static final String[] LAST_QUESTIONS = {"check", "slack 1", worthOf(1), worthOf(2), worthOf(3), worthOf(4),
        worthOf(5)};

    private final List<String> questions = new ArrayList<>();
    private final List<Integer> answers = new ArrayList<>();

    private Snapshot() {
    }

    static Snapshot after(String calls) {
        Snapshot shot = new Snapshot();
        TallyCourt court = Due.after(calls);
        shot.addQuestions(court.count(0), court.count(4), court.count(5));
        shot.answerAll(calls);
        return shot;
    }

    /** What found() tells after some calls, by k; 0 has none. */
    static int[] found(String calls) {
        TallyCourt court = Due.after(calls);
        int[] found = new int[6];
        for (int k = 1; k < found.length; k++) {
            found[k] = court.found(k);
        }
        return found;
    }

    void isSameAs(Snapshot before, String what) {
        Due.same(what + ": how much there is to ask", questions.size(), before.questions.size());
        for (int i = 0; i < Math.min(questions.size(), before.questions.size()); i++) {
            Due.same(what + ": " + questions.get(i), answers.get(i), before.answers.get(i));
        }
    }

    private static String worthOf(int width) {
        return "column 1 0;column 2 0;column 3 0;column 4 0;column 5 0;column " + width + " 1;sum";
    }

    private void addQuestions(int pieces, int passings, int day) {
        questions.addAll(List.of("pairs", "sum", "fewest", "ring -1", "ring -2", "ring 0", "ring 1"));
        for (int piece = 0; piece < pieces; piece++) {
            for (int what = 0; what < 8; what++) {
                questions.add("about " + piece + " " + what);
            }
            for (int place = 0; place < 40; place++) {
                questions.add("depth " + piece + " " + place);
            }
            questions.add("other " + piece);
            questions.add("raised " + piece);
            questions.add("toPay " + piece);
            questions.add("holder " + piece + " 0");
            questions.add("holder " + piece + " " + day);
        }
        for (int i = 0; i < passings; i++) {
            for (int what = 0; what < 4; what++) {
                questions.add("passing " + i + " " + what);
            }
        }
        for (int i = 0; i < 8; i++) {
            questions.add("count " + i);
            questions.add("purse " + i + " -1");
            questions.add("net " + i);
        }
        for (int width = 1; width <= 5; width++) {
            questions.add("column " + width + " -1");
        }
    }

    /** On new objects again and again, since an object answers 512 calls. */
    private void answerAll(String calls) {
        int room = Math.max(1, MOST_CALLS - calls.split(";").length);
        TallyCourt court = null;
        for (int i = 0; i < questions.size(); i++) {
            if (i % room == 0) {
                court = Due.after(calls);
            }
            answers.add(Due.call(court, questions.get(i)));
        }
        for (String question : LAST_QUESTIONS) {
            questions.add(question);
            int end = question.lastIndexOf(';') + 1;
            answers.add(Due.call(Due.then(Due.after(calls), question.substring(0, end)), question.substring(end)));
        }
    }
}
