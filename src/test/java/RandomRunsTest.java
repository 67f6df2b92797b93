import java.lang.reflect.InvocationTargetException;
import java.lang.reflect.Method;
import java.util.ArrayList;
import java.util.Arrays;
import java.util.List;
import java.util.Random;

/**
 * Runs of 512 calls by lot, from the same seeds each time: the class must answer as the model does,
 * and must never throw. Of all promises at once, with wrong numbers among the right ones.
 */
public final class RandomRunsTest {
    private static final int RUNS = 400, CALLS = 512;
    private static final int[] ODD = {-1, -2, 5, 6, 7, 30, 31, 35, 40, 41, 60, 99, 100, 160, 255, 256, 99999, 100000,
        Integer.MIN_VALUE, Integer.MAX_VALUE, Integer.MIN_VALUE + 1, Integer.MAX_VALUE - 2};
    private static final String[] SNIPPETS = {"blows ", "worth ", "hands ", ";", "(", ")", "not ", "and ", "or ", "-", "+",
        "*", "<", "=", "cell ", "x ", "y ", "step ", "thing ", "more ", "7 ", "12345", "9999 ", "0 ", "\n", "$", "nots"};

    private final Dues d = new Dues();
    private final Random lot;
    private final WhereTheSpoonWent x = new WhereTheSpoonWent();
    private final Model model = new Model();
    private final List<String> calls = new ArrayList<>();

    private RandomRunsTest(long seed) {
        lot = new Random(seed);
    }

    public static void main(String[] args) throws Exception {
        List<Method> face = new ArrayList<>();
        for (Method m : Model.class.getDeclaredMethods()) {
            try {
                WhereTheSpoonWent.class.getMethod(m.getName(), m.getParameterTypes());
                if (!java.lang.reflect.Modifier.isPrivate(m.getModifiers())) {
                    face.add(m);
                }
            } catch (NoSuchMethodException e) {
                continue;
            }
        }
        face.sort((a, b) -> a.getName().compareTo(b.getName()));
        Dues all = new Dues();
        all.due("calls of the face", face.size(), 39);
        for (int run = 0; run < RUNS; run++) {
            if (!new RandomRunsTest(run).runs(face, all, run)) {
                break;
            }
        }
        all.end();
    }

    /** False behind the first wrong answer, of which all calls are told. */
    private boolean runs(List<Method> face, Dues all, int run) throws Exception {
        for (int i = 0; i < CALLS; i++) {
            Method m = face.get(lot.nextInt(face.size()));
            int n = lot.nextInt(10);
            if (i < 6) {
                m = named(face, "thing");
            } else if (i < 20) {
                m = named(face, "house");
            } else if (n == 0) {
                feedText(face, all, run);
                m = named(face, "text");
            } else if (n == 1) {
                m = named(face, lot.nextBoolean() ? "put" : "house");
            } else if ((m.getName().equals("thing") || m.getName().equals("thingsBy")) && n < 7) {
                m = named(face, "run");
            } else if (m.getName().equals("text") && model.count(5) > 4 && n < 9) {
                m = named(face, "force");
            }
            if (!alike(m, argumentsOf(m), all, run)) {
                return false;
            }
        }
        return true;
    }

    private static Method named(List<Method> face, String name) {
        return face.stream().filter(m -> m.getName().equals(name)).findFirst().orElseThrow();
    }

    private boolean alike(Method m, Object[] arguments, Dues all, int run) throws Exception {
        String call = m.getName() + Arrays.toString(arguments);
        calls.add(call);
        long due = ((Number) m.invoke(model, arguments)).longValue();
        long got;
        try {
            Method real = WhereTheSpoonWent.class.getMethod(m.getName(), m.getParameterTypes());
            got = ((Number) real.invoke(x, arguments)).longValue();
        } catch (InvocationTargetException e) {
            all.fault("run " + run + ": " + call + " threw " + e.getCause() + " behind " + calls);
            return false;
        }
        all.due("run " + run + ": " + call, got, due);
        if (got != due) {
            System.out.println(calls);
        }
        return got == due;
    }

    private int below(int n) {
        return lot.nextInt(n);
    }

    /** Likely right numbers, by the name of the call; now and then an odd one. */
    private Object[] argumentsOf(Method m) {
        int[] a = usual(m.getName());
        if (below(25) == 0) {
            a = a.clone();
            if (a.length > 0) {
                a[below(a.length)] = ODD[below(ODD.length)];
            }
        }
        return Arrays.stream(a).boxed().toArray();
    }

    private int thingNumber() {
        return below(Math.max(1, model.count(0)));
    }

    private int[] usual(String name) {
        int t = thingNumber(), c = below(30), n = below(41), what = below(2), s = below(4);
        switch (name) {
            case "house": return new int[] {below(3), c, below(3) == 0 ? 0 : 1};
            case "set": return new int[] {below(100)};
            case "count": return new int[] {below(8)};
            case "feed": return new int[] {1 + below(5), below(256), below(256), below(256), below(256), below(256)};
            case "force": return new int[] {below(model.count(5))};
            case "asks": return new int[] {below(3), c, below(100), below(100)};
            case "thing": return new int[] {below(60), c, below(5)};
            case "put": return new int[] {t, c, below(5)};
            case "told": return new int[] {t, below(4)};
            case "at": return new int[] {n, t, what};
            case "run": return new int[] {below(4) == 0 ? n : below(4)};
            case "when": return new int[] {t, c};
            case "meet": return new int[] {t, thingNumber()};
            case "inside": return new int[] {n, c};
            case "hand": return new int[] {c, t};
            case "first": return new int[] {c, what};
            case "wait": case "look": case "turn": case "went": case "search": case "can": return ofThing(name, t, c, n, what);
            case "toss": return new int[] {t, 100 * c + below(30), what};
            case "net": return new int[] {n, what};
            case "judge": case "laws": case "film": return new int[] {s, below(3) == 0 ? n : below(3)};
            case "times": return new int[] {s};
            case "drawn": return new int[] {below(100000), n, c};
            case "mean": return new int[] {below(100000), 1 + below(40), 100 * n + c, what};
            case "sheet": return new int[] {s, below(4) - 1, below(3) == 0 ? below(41) : model.count(0)};
            case "cell": return new int[] {s, below(6), below(5) == 0 ? lot.nextInt() : below(60)};
            case "copy": return new int[] {s, below(6), below(4), below(6), below(6)};
            case "thingsBy": return new int[] {s, below(3), below(6), below(6)};
            case "taken": return new int[] {below(35), below(7)};
            default: return new int[0];
        }
    }

    private int[] ofThing(String name, int t, int c, int n, int what) {
        switch (name) {
            case "wait": return new int[] {t, what};
            case "turn": return new int[] {t, c, what};
            case "went": return new int[] {t, n, c};
            case "can": return new int[] {t, n};
            default: return new int[] {t, n, what};
        }
    }

    private void feedText(List<Method> face, Dues all, int run) throws Exception {
        StringBuilder text = new StringBuilder();
        text.append("blows ").append(expression(3)).append(";worth ").append(expression(3));
        text.append(";hands ").append(expression(2)).append(";");
        for (int i = below(4); i > 2; i--) {
            int at = below(text.length());
            String snippet = SNIPPETS[below(SNIPPETS.length)];
            if (below(2) == 0) {
                text.insert(at, snippet);
            } else {
                text.deleteCharAt(at);
            }
        }
        for (int i = 0; i < text.length(); i += 5) {
            Object[] a = {Math.min(5, text.length() - i), 0, 0, 0, 0, 0};
            for (int j = 0; j < 5 && i + j < text.length(); j++) {
                a[1 + j] = (int) text.charAt(i + j);
            }
            if (!alike(named(face, "feed"), a, all, run)) {
                return;
            }
        }
    }

    private String expression(int depth) {
        String blank = below(3) == 0 ? "\n" : " ";
        if (depth == 0 || below(4) == 0) {
            String[] leaves = {"cell", "x", "y", "step", "thing", "more", "" + below(10), "" + below(10000), "" + below(5)};
            return leaves[below(leaves.length)] + blank;
        }
        switch (below(9)) {
            case 0: return "not " + expression(depth - 1);
            case 1: return "-" + expression(depth - 1);
            case 2: return "(" + expression(depth) + ")";
            case 3: return "(" + expression(depth - 1) + "*" + expression(depth - 1) + ")";
            default: break;
        }
        String[] signs = {"+", "-", "*", "<", "=", " and ", " or "};
        return expression(depth - 1) + signs[below(signs.length)] + expression(depth - 1);
    }
}
