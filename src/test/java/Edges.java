import java.io.IOException;
import java.lang.reflect.Method;
import java.util.ArrayList;
import java.util.Arrays;
import java.util.HashMap;
import java.util.List;
import java.util.Map;
import java.util.Set;

/**
 * Tests of single sentences of the document: each bears a promise's number and the words that it
 * holds, and is rows of calls on new objects (see Rows). Behind each run of rows it is looked at,
 * too, whether refusals and what is asked have changed nothing: a second object, on which only the
 * calls that should change something were made, must answer all further calls alike.
 */
final class Edges {
    private static final int MOST_CALLS = 512;
    private static final Set<String> CHANGING = Set.of("house", "set", "feed", "text", "force", "thing", "put", "run",
        "key", "film", "image", "back", "sheet", "cell", "copy", "thingsBy");
    private static final Map<String, Method> FACE = new HashMap<>();

    static {
        for (Method m : WhereTheSpoonWent.class.getDeclaredMethods()) {
            if (java.lang.reflect.Modifier.isPublic(m.getModifiers())) {
                FACE.put(m.getName(), m);
            }
        }
    }

    /** An object, and how many calls it has had. */
    private static final class Used {
        final WhereTheSpoonWent object = new WhereTheSpoonWent();
        int calls;

        long answer(String name, int... numbers) throws ReflectiveOperationException {
            if (Character.isUpperCase(name.charAt(0))) {
                return ((Number) WhereTheSpoonWent.class.getField(name).get(null)).longValue();
            }
            calls++;
            Method m = FACE.get(name);
            if (m == null || m.getParameterCount() != numbers.length) {
                throw new IllegalArgumentException("no such call: " + name + Arrays.toString(numbers));
            }
            return ((Number) m.invoke(object, Arrays.stream(numbers).boxed().toArray())).longValue();
        }
    }

    private final Doc doc = new Doc();
    private final int[] tests = new int[41];
    private int wrong;
    private String test;

    Edges() throws IOException {
    }

    /** A test of these words of the document. */
    void test(int promise, String words, String... rows) {
        test = "promise " + promise + ": " + words;
        tests[promise]++;
        if (!doc.holds(promise, words)) {
            fault("these words don't stand in the document");
        }
        if (rows.length == 0) {
            fault("no rows");
        }
        for (List<Rows.Call> run : Rows.runs(rows)) {
            try {
                isAsDue(run);
            } catch (ReflectiveOperationException e) {
                fault("threw " + e.getCause());
            }
        }
    }

    private void fault(String told) {
        wrong++;
        System.out.println(test + ": " + told);
    }

    private void isAsDue(List<Rows.Call> run) throws ReflectiveOperationException {
        Used x = new Used();
        List<Rows.Call> changed = new ArrayList<>();
        boolean hasSheets = false;
        for (Rows.Call call : run) {
            long got = x.answer(call.name(), call.numbers());
            if (call.due() == null ? got < 0 : got != call.due()) {
                fault(call.told() + " answered " + got + ", due is " + (call.due() == null ? "0 or more" : call.due()));
                return;
            }
            if (changes(call.name(), got)) {
                changed.add(call);
            }
            hasSheets |= call.name().equals("sheet") || call.name().equals("film");
        }
        if (x.calls < MOST_CALLS - 100) {
            alikeBehind(run, changed, -1);
        } else if (x.calls > MOST_CALLS) {
            fault("too many calls on one object: " + x.calls);
        }
        for (int s = 0; s < 4 && hasSheets; s++) {
            alikeBehind(run, changed, s);
        }
    }

    /** A FAULT changes THE TAPE, and behind the last number what stood ahead came. */
    private static boolean changes(String name, long answer) {
        boolean isChangingRefusal = name.equals("text") && answer <= -100 || name.equals("thingsBy") && answer == -12;
        return CHANGING.contains(name) && (answer >= 0 || isChangingRefusal);
    }

    private void alikeBehind(List<Rows.Call> run, List<Rows.Call> changed, int sheet)
            throws ReflectiveOperationException {
        List<String> is = heldBehind(run, sheet);
        List<String> due = heldBehind(changed, sheet);
        if (!is.equals(due)) {
            fault("a refusal, or what was only asked, has changed something: behind it " + is + ", without it " + due);
        }
    }

    private List<String> heldBehind(List<Rows.Call> run, int sheet) throws ReflectiveOperationException {
        Used x = new Used();
        for (Rows.Call call : run) {
            x.answer(call.name(), call.numbers());
        }
        List<String> held = new ArrayList<>();
        if (sheet < 0) {
            addHeld(x, held);
        } else {
            addNumbers(x, sheet, held);
        }
        if (x.calls > MOST_CALLS) {
            fault("too many calls on one object: " + x.calls);
        }
        return held;
    }

    private static void add(Used x, List<String> held, String row) throws ReflectiveOperationException {
        for (Rows.Call call : Rows.runs(row).get(0)) {
            held.add(call.told() + " " + x.answer(call.name(), call.numbers()));
        }
    }

    /** THINGS, the house, THE LAW, THE TAPE, THE IMAGE, the TEXTS. */
    private static void addHeld(Used x, List<String> held) throws ReflectiveOperationException {
        for (String row : new String[] {"count(0..7)", "told(0..4, 0..3)", "copy(0, 0, 0, 0, 0)", "copy(1, 0, 1, 0, 0)",
            "copy(2, 0, 2, 0, 0)", "copy(3, 0, 3, 0, 0)", "text()", "back()", "count(0..4)", "count(6)",
            "told(0..4, 0..1)"}) {
            add(x, held, row);
        }
        for (int t = 0; t < 6; t++) {
            add(x, held, "force(" + t + ")");
            add(x, held, "asks(0..2, 14, 7, 38)");
        }
    }

    /** A SHEET's sort, its size, and its first numbers, as far as they are CELLS. */
    private static void addNumbers(Used x, int sheet, List<String> held) throws ReflectiveOperationException {
        int other = (sheet + 1) % 4;
        int sort = sortOf(x, sheet, other);
        held.add("sort " + sort);
        if (sort < 0) {
            return;
        }
        int size = 40;
        while (size > 0 && x.answer("copy", sheet, size, other, 0, 0) != 0) {
            size--;
        }
        held.add("size " + size);
        for (int c = 0; c < 30; c++) {
            x.answer("house", 0, c, 0);
        }
        x.answer("thing", 0, 0, 0);
        int things = (int) x.answer("count", 0);
        for (int i = 0; i < Math.min(size, 5); i++) {
            x.answer("sheet", other, sort, things);
            x.answer("copy", sheet, i, other, 0, 1);
            held.add("number " + i + " " + firstNumberOf(x, other));
        }
    }

    private static int sortOf(Used x, int sheet, int other) throws ReflectiveOperationException {
        for (int sort = 0; sort < 3; sort++) {
            x.answer("sheet", other, sort, 40);
            if (x.answer("copy", sheet, 0, other, 0, 0) == 0) {
                return sort;
            }
        }
        return -1;
    }

    private static int firstNumberOf(Used x, int sheet) throws ReflectiveOperationException {
        for (int c = 0; c < 30; c++) {
            x.answer("put", 0, c, 4);
            if (x.answer("judge", sheet, 0) != 0) {
                return c;
            }
        }
        return -1;
    }

    /** Tells how many tests each promise has, and what of the document none holds; ends with 1, if one was wrong. */
    void end() {
        int all = 0;
        StringBuilder each = new StringBuilder();
        for (int promise = 1; promise < tests.length; promise++) {
            all += tests[promise];
            each.append(' ').append(promise).append(':').append(tests[promise]);
        }
        System.out.println(all + " tests of sentences, by promises" + each);
        test = "the document";
        for (String words : doc.left()) {
            fault("no test holds these words: " + words);
        }
        if (wrong != 0) {
            System.out.println(wrong + " are wrong");
            System.exit(1);
        }
    }
}
