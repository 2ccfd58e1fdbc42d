import java.lang.reflect.InvocationTargetException;
import java.lang.reflect.Method;
import java.util.Arrays;
import java.util.HashMap;
import java.util.Map;

/** What the tests share: the findings, answers compared with what is due, and calls by name. */
final class Due {
    static final int BEYOND = -1000000001;
    static final int NONE = -1000000002;
    static final int STATE = -1000000003;
    static final int FULL = -1000000004;
    static final int KIND = -1000000005;

    private static final int MOST_SHOWN = 40;
    private static final Map<String, Method> METHODS = new HashMap<>();
    private static int wrong = 0;
    private static String matter = "";

    static {
        for (Method method : TallyCourt.class.getMethods()) {
            if (method.getDeclaringClass() == TallyCourt.class) {
                METHODS.put(method.getName(), method);
            }
        }
    }

    private Due() {
    }

    /** Makes a call that is written as name and numbers, such as "notch 0 4 2 5". */
    static int call(TallyCourt court, String call) {
        String[] words = call.trim().split(" +");
        Object[] args = new Object[words.length - 1];
        for (int i = 0; i < args.length; i++) {
            args[i] = Integer.valueOf(words[i + 1]);
        }
        Method method = METHODS.get(words[0]);
        if (method == null || method.getParameterCount() != args.length) {
            throw new IllegalArgumentException("no such call: " + call);
        }
        try {
            return (Integer) method.invoke(court, args);
        } catch (InvocationTargetException e) {
            throw new IllegalStateException(call + " threw " + e.getCause(), e.getCause());
        } catch (IllegalAccessException e) {
            throw new IllegalStateException(call, e);
        }
    }

    /** A new object on which calls, parted by ";", have been made. */
    static TallyCourt after(String calls) {
        return then(new TallyCourt(), calls);
    }

    static TallyCourt then(TallyCourt court, String calls) {
        for (String call : calls.split(";")) {
            if (!call.isBlank()) {
                call(court, call);
            }
        }
        return court;
    }

    static void is(TallyCourt court, String call, int want) {
        same(call, call(court, call), want);
    }

    /** Calls with their answers, parted by ";", such as "make 7 0 = 0; burn 0 = 0". */
    static void are(TallyCourt court, String callsAndAnswers) {
        for (String row : callsAndAnswers.split(";")) {
            if (row.isBlank()) {
                continue;
            }
            String[] sides = row.split("=");
            is(court, sides[0].trim(), answer(sides[1].trim()));
        }
    }

    static int answer(String text) {
        return switch (text) {
            case "BEYOND" -> BEYOND;
            case "NONE" -> NONE;
            case "STATE" -> STATE;
            case "FULL" -> FULL;
            case "KIND" -> KIND;
            default -> Integer.parseInt(text);
        };
    }

    static void same(String what, long got, long want) {
        if (got != want) {
            tellWrong(what + " answered " + got + ", due is " + want);
        }
    }

    static void holds(String what, boolean is) {
        if (!is) {
            tellWrong(what + " does not hold");
        }
    }

    /** What the next rows are about: told with each answer that is wrong. */
    static void begin(String what) {
        matter = what.isEmpty() ? "" : what + ": ";
    }

    private static void tellWrong(String text) {
        wrong++;
        if (wrong <= MOST_SHOWN) {
            System.out.println(matter + text + " " + where());
        }
    }

    private static String where() {
        return Arrays.stream(new Throwable().getStackTrace())
            .filter(frame -> frame.getClassName().endsWith("Test"))
            .findFirst().map(frame -> "(" + frame.getFileName() + ":" + frame.getLineNumber() + ")").orElse("");
    }

    static int wrongSoFar() {
        return wrong;
    }

    static void end() {
        System.out.println(wrong == 0 ? "all answers are as due" : wrong + " answers are not as due");
        if (wrong != 0) {
            System.exit(1);
        }
    }
}
