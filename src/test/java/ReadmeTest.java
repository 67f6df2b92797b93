import java.io.File;
import java.io.IOException;
import java.io.InputStream;
import java.nio.charset.StandardCharsets;
import java.nio.file.Files;
import java.nio.file.Path;
import java.util.ArrayList;
import java.util.List;
import java.util.regex.Matcher;
import java.util.regex.Pattern;

/** README.md: its examples, run as the one program that they are, and that it leaves out no call and no refusal. */
public final class ReadmeTest {
    private static final Dues d = new Dues();
    private static final Pattern BLOCK = Pattern.compile("(?s)```java\n(.*?)```");
    private static final Pattern ROW = Pattern.compile("(house\\.(\\w+)\\(.*\\)); *// (-?\\w+)(?::.*)?");
    private static final String[] REFUSALS = {"`NONE` (-1)", "`BAD` (-2)", "`STATE` (-3)", "`FULL` (-4)", "-5", "-7", "-11",
        "-12", "-13", "-14", "-100 and less", "`NO`"};

    public static void main(String[] args) throws Exception {
        String page = Files.readString(Path.of("README.md"));
        namesAllCalls(page);
        for (String refusal : REFUSALS) {
            d.due("README tells the refusal " + refusal, page.contains("| " + refusal + " |") ? 1 : 0, 1);
        }
        d.due("README tells for how many calls", page.contains("good for 512 calls") ? 1 : 0, 1);
        d.due("README tells how to run the tests", page.contains("    .ci/run\n") ? 1 : 0, 1);
        runExamples(page);
        d.end();
    }

    /** In a table, as the call's head, and in an example with its answer (or fed in a loop). */
    private static void namesAllCalls(String page) {
        for (java.lang.reflect.Method m : WhereTheSpoonWent.class.getDeclaredMethods()) {
            if (java.lang.reflect.Modifier.isPublic(m.getModifiers())) {
                String head = "\\| `" + m.getName() + "\\(" + (m.getParameterCount() == 0 ? "\\)"
                    : "\\w+(, \\w+){" + (m.getParameterCount() - 1) + "}\\)") + "` \\|";
                d.due("README tells " + m.getName(), Pattern.compile(head).matcher(page).find() ? 1 : 0, 1);
                d.due("README uses " + m.getName(), page.contains("\nhouse." + m.getName() + "(") ? 1 : 0, 1);
            }
        }
    }

    /** Compiled as .ci/run compiles: so an example that is no Java is found, too. */
    private static void runExamples(String page) throws IOException, InterruptedException {
        Path folder = Files.createTempDirectory("readme");
        Path program = folder.resolve("Examples.java");
        Path compiled = folder.resolve("Examples.class");
        String classes = System.getProperty("java.class.path");
        try {
            Files.writeString(program, program(page));
            told("javac", "-encoding", "UTF-8", "-cp", classes, "-d", folder.toString(), program.toString());
            if (Files.exists(compiled)) {
                compare(page, told("java", "-cp", classes + File.pathSeparator + folder, "Examples").split("\n"));
            }
        } finally {
            Files.deleteIfExists(compiled);
            Files.deleteIfExists(program);
            Files.delete(folder);
        }
    }

    private static List<Matcher> rows(String page) {
        List<Matcher> rows = new ArrayList<>();
        Matcher block = BLOCK.matcher(page);
        while (block.find()) {
            for (String line : block.group(1).split("\n")) {
                Matcher row = ROW.matcher(line);
                boolean isRow = row.matches();
                d.due("the answer is told: " + line, line.startsWith("house.") && !isRow ? 1 : 0, 0);
                if (isRow) {
                    rows.add(row);
                }
            }
        }
        return rows;
    }

    private static String program(String page) {
        StringBuilder all = new StringBuilder("final class Examples {\n    public static void main(String[] args) {\n");
        Matcher block = BLOCK.matcher(page);
        while (block.find()) {
            for (String line : block.group(1).split("\n")) {
                Matcher row = ROW.matcher(line);
                all.append(row.matches() ? "System.out.println(" + row.group(1) + ");" : line).append('\n');
            }
        }
        return all.append("    }\n}\n").toString();
    }

    private static void compare(String page, String[] answers) {
        List<Matcher> rows = rows(page);
        d.due("answers of the examples", answers.length, rows.size());
        for (int i = 0; i < rows.size() && i < answers.length; i++) {
            d.due(rows.get(i).group(1), Long.parseLong(answers[i]), number(rows.get(i).group(3)));
        }
        d.due("calls of the examples, on one object", answers.length <= 400 ? 1 : 0, 1);
    }

    private static long number(String told) {
        switch (told) {
            case "NONE": return WhereTheSpoonWent.NONE;
            case "BAD": return WhereTheSpoonWent.BAD;
            case "STATE": return WhereTheSpoonWent.STATE;
            case "FULL": return WhereTheSpoonWent.FULL;
            case "NO": return WhereTheSpoonWent.NO;
            default: return Long.parseLong(told);
        }
    }

    /** What it prints; its complaints are shown as they come. */
    private static String told(String... command) throws IOException, InterruptedException {
        Process process = new ProcessBuilder(command).redirectError(ProcessBuilder.Redirect.INHERIT).start();
        try (InputStream in = process.getInputStream()) {
            String told = new String(in.readAllBytes(), StandardCharsets.UTF_8);
            d.due(String.join(" ", command) + " ends with", process.waitFor(), 0);
            return told;
        }
    }
}
