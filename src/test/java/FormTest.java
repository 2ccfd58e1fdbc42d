import com.sun.management.ThreadMXBean;
import java.io.IOException;
import java.lang.management.ManagementFactory;
import java.lang.reflect.Array;
import java.lang.reflect.Executable;
import java.lang.reflect.Field;
import java.lang.reflect.Modifier;
import java.nio.file.Files;
import java.nio.file.Path;
import java.util.ArrayList;
import java.util.Arrays;
import java.util.IdentityHashMap;
import java.util.List;
import java.util.Map;
import java.util.Set;
import java.util.TreeSet;
import java.util.regex.Matcher;
import java.util.regex.Pattern;

/** The form that LANGUAGE.md wants (rules 3, 4, 9, 11, 12), and the room that an object and its calls take. */
public final class FormTest {
    private static final int MOST_PARAMETERS = 7;
    private static final int MOST_LINES = 60;
    private static final int MOST_CLASSES = 12;
    private static final int MOST_FIELDS = 20;
    private static final int MOST_CALLS = 512;
    // As NOTES.md tells the room: far below what a run has, even if it makes a hundred objects.
    private static final int MOST_OBJECTS = 120;
    private static final int MOST_ELEMENTS = 2600;
    private static final int FEWEST_TABLE = 20001;
    private static final Set<String> LIBRARY = Set.of("Arrays.fill", "Math.abs", "Math.max", "Math.min", "System.arraycopy");

    public static void main(String[] args) throws IOException {
        String source = Files.readString(Path.of("src/main/java/TallyCourt.java"));
        String code = source.replaceAll("(?s)/\\*.*?\\*/", "").replaceAll("//[^\n]*", "");
        libraryIsSmall(code);
        loopsAreCounted(code);
        methodsAreShort(code);
        numbersAreSmall();
        roomOfAnObject();
        roomOfTheCalls();
        Due.end();
    }

    // Rule 4
    private static void libraryIsSmall(String code) {
        Set<String> used = new TreeSet<>();
        Pattern.compile("\\b([A-Z]\\w*\\.[a-z]\\w*)").matcher(code.replaceAll("(?m)^import .*$", "")).results()
            .forEach(found -> used.add(found.group(1)));
        Due.holds("of the library only " + LIBRARY + ", it is " + used, LIBRARY.containsAll(used));
        for (String type : List.of("String", "Integer", "List", "Object", "double", "float")) {
            Due.holds("no " + type, !Pattern.compile("\\b" + type + "\\b").matcher(code).find());
        }
    }

    // Rule 9: each loop counts from a first number to a bound.
    private static void loopsAreCounted(String code) {
        Due.holds("no while", !Pattern.compile("\\b(while|do)\\b").matcher(code).find());
        Matcher loop = Pattern.compile("\\bfor \\(([^;]*);([^;]*);([^{]*)\\) \\{").matcher(code);
        int counted = 0;
        while (loop.find()) {
            counted++;
            String name = loop.group(1).replaceAll("^int (\\w+) = .*$", "$1");
            Due.holds("for (" + loop.group(1) + ": " + name + " has a bound",
                loop.group(2).matches(" " + name + " (<|<=|>=) .*"));
            Due.holds("for (" + loop.group(1) + ": " + name + " goes on", loop.group(3).matches(" " + name + "(\\+\\+|--)"));
        }
        Due.same("loops that are counted", counted, Pattern.compile("\\bfor\\b").matcher(code).results().count());
    }

    // Rule 11
    private static void methodsAreShort(String code) {
        List<String> lines = code.lines().toList();
        int began = -1;
        int found = 0;
        for (int i = 0; i < lines.size(); i++) {
            String line = lines.get(i);
            if (line.matches("( {4}| {8})[^ ].*\\) \\{")) {
                began = i;
            }
            if (began >= 0 && line.equals(lines.get(began).replaceAll("[^ ].*", "}"))) {
                found++;
                Due.holds("short: " + lines.get(began).trim(), i - began + 1 <= MOST_LINES);
                began = -1;
            }
        }
        Due.holds("methods were found: " + found, found > 80);
    }

    // Rule 11
    private static void numbersAreSmall() {
        List<Class<?>> classes = new ArrayList<>(Arrays.asList(TallyCourt.class.getDeclaredClasses()));
        classes.add(TallyCourt.class);
        Due.holds("classes: " + classes.size(), classes.size() <= MOST_CLASSES);
        for (Class<?> type : classes) {
            long fields = Arrays.stream(type.getDeclaredFields()).filter(f -> !Modifier.isStatic(f.getModifiers())).count();
            Due.holds("fields of " + type + ": " + fields, fields <= MOST_FIELDS);
            List<Executable> all = new ArrayList<>(Arrays.asList(type.getDeclaredMethods()));
            all.addAll(Arrays.asList(type.getDeclaredConstructors()));
            all.forEach(one -> Due.holds("parameters of " + one, one.getParameterCount() <= MOST_PARAMETERS));
            Arrays.stream(type.getDeclaredFields()).forEach(FormTest::typeIsPlain);
        }
    }

    // Rule 3: numbers, rows of them, boards of numbers, and classes of its own, in rows at most.
    private static void typeIsPlain(Field field) {
        Class<?> type = field.getType();
        Class<?> inner = type.isArray() ? type.getComponentType() : type;
        boolean board = inner.isArray() && inner.getComponentType().isPrimitive();
        Due.holds(field + " is of a plain type", inner.isPrimitive() || inner.getEnclosingClass() == TallyCourt.class || board);
    }

    // Rule 12
    private static void roomOfAnObject() {
        TallyCourt court = new TallyCourt();
        int[] fresh = roomOf(court);
        Due.holds("objects of a new one: " + fresh[0], fresh[0] <= MOST_OBJECTS);
        Due.holds("elements of a new one: " + fresh[1], fresh[1] <= MOST_ELEMENTS);
        for (String calls : busyRun()) {
            Due.call(court, calls);
        }
        int[] used = roomOf(court);
        Due.same("objects behind all calls, with one table", used[0], fresh[0] + 1);
        Due.same("elements behind all calls, with one table", used[1], fresh[1] + FEWEST_TABLE);
    }

    /** How many objects and arrays, and how many fields and elements these have. */
    private static int[] roomOf(Object root) {
        Map<Object, Boolean> seen = new IdentityHashMap<>();
        List<Object> open = new ArrayList<>(List.of(root));
        int elements = 0;
        while (!open.isEmpty()) {
            Object one = open.remove(open.size() - 1);
            if (seen.put(one, true) != null) {
                continue;
            }
            List<Object> parts = partsOf(one);
            elements += parts.size();
            parts.stream().filter(part -> part != null && !(part instanceof Number)).forEach(open::add);
        }
        return new int[] {seen.size(), elements};
    }

    private static List<Object> partsOf(Object one) {
        List<Object> parts = new ArrayList<>();
        if (one.getClass().isArray()) {
            for (int i = 0; i < Array.getLength(one); i++) {
                parts.add(Array.get(one, i));
            }
            return parts;
        }
        for (Field field : one.getClass().getDeclaredFields()) {
            if (!Modifier.isStatic(field.getModifiers())) {
                field.setAccessible(true);
                try {
                    parts.add(field.get(one));
                } catch (IllegalAccessException e) {
                    throw new IllegalStateException(e);
                }
            }
        }
        return parts;
    }

    /** All calls of one object, with every name of the face, those that are refused too. */
    private static List<String> busyRun() {
        List<String> calls = new ArrayList<>(Arrays.asList((Sticks.debt(0, 1, 0, 2, 1, 9) + Sticks.debt(2, 0, 1, 3, 2, 9)
            + "memo 1 4;wear 0 1;slack 2;pass 0 3;pass 0 0;day 50;lay 2;column 1 40;sum;fewest;setOff;pay 6 1;burn 0;"
            + "tell 7;check;reduce;measure 1 2;fewest").split(";")));
        String[] asked = {"about 4 7", "cut 4 0", "depth 4 0", "composed 12", "apart 4 5", "pairs", "other 4", "raised 4",
            "holder 0 20", "passing 0 3", "owes 0 1", "net 0", "ring -1", "toPay 4", "pay 4 4", "setOff", "purse 0 500", "as 4 1",
            "lose 4 1", "lose 4 0", "count 7", "found 1", "sum", "fewest", "reduce", "tell 9", "check", "split 9 9 9", "make 3 3",
            "measure 3 300", "measure 3 240", "memo 5 1", "notch 5 9 1 1", "wear 5 1", "burn 3", "column 1 900", "lay 4"};
        for (int i = 0; calls.size() < MOST_CALLS; i++) {
            calls.add(asked[i % asked.length]);
        }
        return calls;
    }

    /** Measured where the machine can tell it; the least of several times, as it may make things of its own meanwhile. */
    private static void roomOfTheCalls() {
        if (!(ManagementFactory.getThreadMXBean() instanceof ThreadMXBean bean) || !bean.isThreadAllocatedMemorySupported()) {
            System.out.println("the room of the calls can't be measured here");
            return;
        }
        long least = Long.MAX_VALUE;
        for (int i = 0; i < 20; i++) {
            TallyCourt court = new TallyCourt();
            fillWithPairs(court);
            long before = bean.getThreadAllocatedBytes(Thread.currentThread().getId());
            askAll(court);
            least = Math.min(least, bean.getThreadAllocatedBytes(Thread.currentThread().getId()) - before);
        }
        Due.holds("bytes that the calls made: " + least, least < 1000);
    }

    private static void fillWithPairs(TallyCourt court) {
        for (int i = 0; i < 10; i++) {
            court.make(i % 3, i % 8);
            court.notch(2 * i, 0, 3, 5);
            court.split(2 * i, (i + 1) % 8, i);
        }
        court.column(1, 30);
        court.fewest();
    }

    private static void askAll(TallyCourt court) {
        court.setOff();
        court.pay(18, 1);
        for (int i = 0; i < 10; i++) {
            court.day(10 * i);
            court.pass(2 * i, 7);
            court.notch(i, 30, 1, 1);
            court.wear(i, 1);
            court.pairs();
            court.other(i);
            court.raised(i);
            court.owes(0, i);
            court.net(i);
            court.ring(i);
            court.setOff();
            court.toPay(i);
            court.composed(i);
            court.about(i, 7);
            court.cut(i, 0);
            court.apart(0, 1);
            court.holder(i, i);
            court.lay(i);
            court.reduce();
            court.sum();
            court.measure(1, i % 2 + 1);
            court.fewest();
            court.tell(i);
            court.check();
            court.count(i);
            court.found(i);
            court.memo(1, 1);
            court.make(1, 1);
        }
    }
}
