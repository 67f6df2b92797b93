import java.util.ArrayList;
import java.util.List;
import java.util.Map;
import java.util.regex.Matcher;
import java.util.regex.Pattern;

/**
 * Rows of calls, as the tests of the document's sentences write them, made into single calls.
 *
 * <pre>
 * house(0, 7, 1) = STATE     a call, and the answer that is due: a number, a word of the face, bits(0 29)
 * run(3)                     a call that must not be refused (its answer is 0 or more)
 * taken(-1|35|MAX, 0..5)     several numbers, or all from one to another: a call for each
 * tape 'worth'               these letters are fed, up to five by a call
 * text 'blows 4 ^$'          they are fed, and text() is called: its FAULT is at the ^, which isn't fed
 * text 'blows 4' = -107      the same, with the answer told
 * e '1 + 2 ^3'               on a new object: a text which blows that E, FAULT or not
 * worth '2 + 3' = 5          on a new object: that E is so much worth (cell 16, step 21, thing 3, more 8)
 * row 0 2 = 7 14 29         SHEET 0 becomes these numbers, of sort 2
 * path 0 = 14/1 15/1 15/3    a thing's CELL and WAY BEHIND 0, 1, 2 .. STEPS
 * NONE = -1                  a constant
 * new                        from here on another new object
 * </pre>
 */
final class Rows {
    /** The answer that is due; null: any that is no refusal. */
    record Call(String name, int[] numbers, Long due) {
        String told() {
            StringBuilder all = new StringBuilder(name).append('(');
            for (int i = 0; i < numbers.length; i++) {
                all.append(i == 0 ? "" : ", ").append(numbers[i]);
            }
            return all.append(')').toString();
        }
    }

    private static final Pattern CALL = Pattern.compile("(\\w+)\\((.*?)\\)(?: = (.+))?");
    private static final Pattern LETTERS = Pattern.compile("(?s)(tape|text|e|worth) '(.*)'(?: = (.+))?");
    private static final Pattern CONSTANT = Pattern.compile("([A-Z]+) = (-?\\d+)");
    private static final Map<String, Long> WORDS = Map.of("NONE", -1L, "BAD", -2L, "STATE", -3L, "FULL", -4L,
        "NO", -4611686018427387904L, "MIN", (long) Integer.MIN_VALUE, "MAX", (long) Integer.MAX_VALUE);

    private final List<List<Call>> runs = new ArrayList<>();

    private Rows() {
        runs.add(new ArrayList<>());
    }

    /** For each new object the calls on it. */
    static List<List<Call>> runs(String... rows) {
        Rows all = new Rows();
        for (String row : rows) {
            all.add(row);
        }
        all.runs.removeIf(List::isEmpty);
        return all.runs;
    }

    private void add(String row) {
        Matcher letters = LETTERS.matcher(row);
        Matcher call = CALL.matcher(row);
        Matcher constant = CONSTANT.matcher(row);
        if (row.equals("new")) {
            runs.add(new ArrayList<>());
        } else if (row.startsWith("path ")) {
            addPath(row.substring(5).split(" = "));
        } else if (row.startsWith("row ")) {
            addRow(row.substring(4).split(" = ?"));
        } else if (letters.matches()) {
            addLetters(letters.group(1), letters.group(2), letters.group(3));
        } else if (constant.matches()) {
            addCall(constant.group(1), new int[0], Long.valueOf(constant.group(2)));
        } else if (call.matches()) {
            addCalls(call.group(1), call.group(2), call.group(3) == null ? null : answer(call.group(3)));
        } else {
            throw new IllegalArgumentException("no such row: " + row);
        }
    }

    private void addCall(String name, int[] numbers, Long due) {
        runs.get(runs.size() - 1).add(new Call(name, numbers, due));
    }

    private static Long answer(String told) {
        if (told.startsWith("bits(")) {
            long bits = 0;
            for (String place : told.substring(5, told.length() - 1).split(" ")) {
                bits |= 1L << Integer.parseInt(place);
            }
            return bits;
        }
        return number(told);
    }

    private static long number(String told) {
        return WORDS.containsKey(told) ? WORDS.get(told) : Long.parseLong(told);
    }

    private void addCalls(String name, String arguments, Long due) {
        List<int[]> all = new ArrayList<>(List.of(new int[0]));
        for (String argument : arguments.isEmpty() ? new String[0] : arguments.split(", ")) {
            List<int[]> longer = new ArrayList<>();
            for (int[] numbers : all) {
                for (int v : choices(argument)) {
                    int[] more = java.util.Arrays.copyOf(numbers, numbers.length + 1);
                    more[numbers.length] = v;
                    longer.add(more);
                }
            }
            all = longer;
        }
        for (int[] numbers : all) {
            addCall(name, numbers, due);
        }
    }

    private static List<Integer> choices(String argument) {
        List<Integer> all = new ArrayList<>();
        for (String choice : argument.split("\\|")) {
            String[] ends = choice.split("\\.\\.");
            int from = (int) number(ends[0]);
            int to = (int) number(ends[ends.length - 1]);
            for (long v = from; v <= to; v++) {
                all.add((int) v);
            }
        }
        return all;
    }

    private void addPath(String[] thingAndPlaces) {
        int t = Integer.parseInt(thingAndPlaces[0]);
        String[] places = thingAndPlaces[1].split(" ");
        for (int n = 0; n < places.length; n++) {
            String[] cellAndWay = places[n].split("/");
            addCall("at", new int[] {n, t, 0}, number(cellAndWay[0]));
            addCall("at", new int[] {n, t, 1}, number(cellAndWay[1]));
        }
    }

    private void addRow(String[] sheetAndNumbers) {
        String[] sheetAndSort = sheetAndNumbers[0].split(" ");
        int s = Integer.parseInt(sheetAndSort[0]);
        String[] numbers = sheetAndNumbers.length < 2 ? new String[0] : sheetAndNumbers[1].split(" ");
        addCall("sheet", new int[] {s, Integer.parseInt(sheetAndSort[1]), numbers.length}, 1L);
        for (int i = 0; i < numbers.length; i++) {
            addCall("cell", new int[] {s, i, (int) number(numbers[i])}, 1L);
        }
    }

    private void addLetters(String what, String letters, String told) {
        switch (what) {
            case "tape" -> addFeeds(letters);
            case "text" -> addText(letters, told == null ? null : answer(told));
            case "e" -> {
                runs.add(new ArrayList<>());
                addText("blows " + letters + ";worth 0;hands 0;", null);
            }
            default -> {
                runs.add(new ArrayList<>());
                addText("blows 0;worth " + letters + ";hands 0;", 1L);
                addCall("force", new int[] {1}, 0L);
                addCall("asks", new int[] {1, 16, 21, 38}, answer(told));
            }
        }
    }

    private void addText(String letters, Long due) {
        int fault = letters.indexOf('^');
        addFeeds(fault < 0 ? letters : letters.substring(0, fault) + letters.substring(fault + 1));
        addCall("text", new int[0], fault < 0 || due != null ? due : Long.valueOf(-100 - fault));
    }

    private void addFeeds(String letters) {
        for (int i = 0; i < letters.length(); i += 5) {
            int[] numbers = {Math.min(5, letters.length() - i), 0, 0, 0, 0, 0};
            for (int j = 0; j < numbers[0]; j++) {
                numbers[1 + j] = letters.charAt(i + j);
            }
            addCall("feed", numbers, null);
        }
    }
}
