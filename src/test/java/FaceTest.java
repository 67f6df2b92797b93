import java.io.IOException;
import java.lang.reflect.Constructor;
import java.lang.reflect.Field;
import java.lang.reflect.Method;
import java.lang.reflect.Modifier;
import java.nio.file.Files;
import java.nio.file.Path;
import java.util.ArrayList;
import java.util.List;
import java.util.TreeSet;
import java.util.regex.Matcher;
import java.util.regex.Pattern;

/** The document's face, and those rules of LANGUAGE.md that can be seen from the file. */
public final class FaceTest {
    private static final Dues d = new Dues();
    private static final String[] FACE = {
        "int house(int, int, int)", "int set(int)", "int count(int)", "int feed(int, int, int, int, int, int)",
        "int text()", "int force(int)", "int asks(int, int, int, int)", "int thing(int, int, int)",
        "int put(int, int, int)", "int told(int, int)", "int at(int, int, int)", "int run(int)", "int when(int, int)",
        "int meet(int, int)", "int inside(int, int)", "int hand(int, int)", "int first(int, int)", "int wait(int, int)",
        "int toss(int, int, int)", "int key()", "int turn(int, int, int)", "int net(int, int)", "int can(int, int)",
        "int look(int, int, int)", "int went(int, int, int)", "long search(int, int, int)", "int judge(int, int)",
        "long times(int)", "int laws(int, int)", "int film(int, int)", "int drawn(int, int, int)",
        "long mean(int, int, int, int)", "int image()", "int back()", "int sheet(int, int, int)",
        "int cell(int, int, int)", "int copy(int, int, int, int, int)", "int thingsBy(int, int, int, int)",
        "int taken(int, int)",
    };
    private static final String[] NOT_IN_IT = {
        "\\bthrow\\b", "\\bthrows\\b", "\\btry\\b", "\\bcatch\\b", "\\bsynchronized\\b", "\\bassert\\b", "\\bimport\\b",
        "\\bpackage\\b", "->", "::", "@", "\\bnew \\w+\\(.*\\) \\{", "Exact\\(", "\\bvar\\b", "\\bObject\\b",
        "\\bwhile \\(true\\)", "\\bfor \\(;", "System\\.(?!arraycopy)", "\"\\s*\\+", "\\+\\s*\"", "\\bstatic \\{",
    };

    public static void main(String[] args) throws IOException {
        theFace();
        theConstants();
        String source = Files.readString(Path.of("src/main/java/WhereTheSpoonWent.java"));
        d.due("signs above 126", source.chars().filter(c -> c > 126).count(), 0);
        String code = source.replaceAll("(?s)/\\*.*?\\*/", "").replaceAll("//[^\n]*", "");
        for (String pattern : NOT_IN_IT) {
            Matcher m = Pattern.compile(pattern).matcher(code);
            d.due("not in it: " + pattern, m.find() ? 1 : 0, 0);
        }
        classesInside(WhereTheSpoonWent.class.getDeclaredClasses());
        shortMethods(code);
        d.end();
    }

    private static void theFace() {
        TreeSet<String> due = new TreeSet<>(List.of(FACE));
        TreeSet<String> is = new TreeSet<>();
        for (Method m : WhereTheSpoonWent.class.getDeclaredMethods()) {
            if (Modifier.isPublic(m.getModifiers())) {
                List<String> types = new ArrayList<>();
                for (Class<?> type : m.getParameterTypes()) {
                    types.add(type.getName());
                }
                is.add(m.getReturnType() + " " + m.getName() + "(" + String.join(", ", types) + ")");
                d.due("static: " + m.getName(), Modifier.isStatic(m.getModifiers()) ? 1 : 0, 0);
            } else {
                d.due("private: " + m.getName(), Modifier.isPrivate(m.getModifiers()) ? 1 : 0, 1);
            }
            d.due("parameters of " + m.getName(), m.getParameterCount() <= 7 ? 1 : 0, 1);
        }
        d.due("the face has " + is + ", due is " + due, is.equals(due) ? 1 : 0, 1);
        Constructor<?>[] made = WhereTheSpoonWent.class.getDeclaredConstructors();
        d.due("constructors", made.length, 1);
        d.due("the constructor's parameters", made[0].getParameterCount(), 0);
        d.due("public and final", WhereTheSpoonWent.class.getModifiers(), Modifier.PUBLIC | Modifier.FINAL);
    }

    private static void theConstants() {
        d.due("NONE", WhereTheSpoonWent.NONE, -1);
        d.due("BAD", WhereTheSpoonWent.BAD, -2);
        d.due("STATE", WhereTheSpoonWent.STATE, -3);
        d.due("FULL", WhereTheSpoonWent.FULL, -4);
        d.due("NO", WhereTheSpoonWent.NO, -4611686018427387904L);
        int seen = 0;
        for (Field f : WhereTheSpoonWent.class.getDeclaredFields()) {
            boolean isPrivate = Modifier.isPrivate(f.getModifiers());
            seen += isPrivate ? 0 : 1;
            d.due("static, but not final: " + f.getName(),
                Modifier.isStatic(f.getModifiers()) && !Modifier.isFinal(f.getModifiers()) ? 1 : 0, 0);
        }
        d.due("fields of the face", seen, 5);
    }

    private static void classesInside(Class<?>[] inside) {
        TreeSet<String> face = new TreeSet<>();
        for (String call : FACE) {
            face.add(call.replaceAll("^\\w+ (\\w+)\\(.*", "$1"));
        }
        d.due("some twelve classes", inside.length <= 11 ? 1 : 0, 1);
        for (Class<?> c : inside) {
            d.due("static: " + c.getName(), Modifier.isStatic(c.getModifiers()) ? 1 : 0, 1);
            for (Method m : c.getDeclaredMethods()) {
                d.due("a name of the face: " + m.getName(), face.contains(m.getName()) ? 1 : 0, 0);
                d.due("parameters of " + m.getName(), m.getParameterCount() <= 7 ? 1 : 0, 1);
            }
            for (Field f : c.getDeclaredFields()) {
                d.due("static, but not final: " + f.getName(),
                    Modifier.isStatic(f.getModifiers()) && !Modifier.isFinal(f.getModifiers()) ? 1 : 0, 0);
            }
        }
        for (Method m : WhereTheSpoonWent.class.getDeclaredMethods()) {
            if (Modifier.isPrivate(m.getModifiers())) {
                d.due("a name of the face: " + m.getName(), face.contains(m.getName()) ? 1 : 0, 0);
            }
        }
    }

    private static void shortMethods(String code) {
        Pattern head = Pattern.compile("( +)(?!if|for|while|switch|else)[a-zA-Z][\\w\\[\\] ]*\\(.*\\) \\{");
        String[] lines = code.split("\n");
        int methods = 0;
        for (int i = 0; i < lines.length; i++) {
            Matcher m = head.matcher(lines[i]);
            if (m.matches()) {
                int end = i + 1;
                while (end < lines.length && !lines[end].equals(m.group(1) + "}")) {
                    end++;
                }
                methods++;
                d.due("long: " + lines[i].strip(), end - i > 60 ? 1 : 0, 0);
            }
        }
        d.due("methods are found", methods > 100 ? 1 : 0, 1);
    }
}
