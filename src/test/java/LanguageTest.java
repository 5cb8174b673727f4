import java.lang.management.ManagementFactory;
import java.lang.reflect.Constructor;
import java.lang.reflect.Field;
import java.lang.reflect.Method;
import java.lang.reflect.Modifier;
import java.nio.file.Files;
import java.nio.file.Path;
import java.util.ArrayList;
import java.util.Arrays;
import java.util.List;
import java.util.TreeSet;
import java.util.regex.Matcher;
import java.util.regex.Pattern;

/** The face, the words that LANGUAGE.md rules out, and how much room a run takes. */
public final class LanguageTest {
    private static final Checks checks = new Checks("LanguageTest");
    private static final String[] FACE = {"bring(int,int)", "count(int)", "course(int)", "fault()", "heap(int,int)",
        "itself(int,int)", "joint(int,int)", "lay()", "next(int)", "slate(int,int,int)", "told(int,int)",
        "tried(int,int)", "undo()", "up()", "wipe()", "write(int)"};

    public static void main(String[] args) throws Exception {
        face();
        words();
        methodNames();
        room();
        checks.end();
    }

    private static void face() {
        Class<?> type = RoofCourses.class;
        checks.due("public and final", Modifier.toString(type.getModifiers()), "public final");
        TreeSet<String> open = new TreeSet<>();
        for (Method method : type.getDeclaredMethods()) {
            if (!Modifier.isPrivate(method.getModifiers())) {
                String inside = Arrays.toString(method.getParameterTypes()).replace("[", "(").replace("]", ")");
                open.add(method.getName() + inside.replace(" ", ""));
                checks.due(method.getName(), Modifier.toString(method.getModifiers()) + " " + method.getReturnType(),
                    "public int");
            }
        }
        checks.due("methods", open.toString(), Arrays.toString(FACE));
        TreeSet<String> constants = new TreeSet<>();
        for (Field field : type.getDeclaredFields()) {
            if (!Modifier.isPrivate(field.getModifiers())) {
                constants.add(Modifier.toString(field.getModifiers()) + " " + field.getName());
            }
        }
        checks.due("constants", constants.toString(), "[public static final BAD, public static final FULL, "
            + "public static final NO, public static final NONE]");
        Constructor<?>[] constructors = type.getDeclaredConstructors();
        checks.due("constructors", constructors.length, 1);
        checks.due("constructor", constructors[0].toString(), "public RoofCourses()");
        int[] values = {RoofCourses.BAD, RoofCourses.NO, RoofCourses.FULL, RoofCourses.NONE};
        checks.due("values", Arrays.toString(values), "[-1, -2, -3, -4]");
    }

    private static String source() throws Exception {
        String text = Files.readString(Path.of("src/main/java/RoofCourses.java"));
        return text.replaceAll("(?s)/\\*.*?\\*/", "").replaceAll("//[^\\n]*", "").replaceAll("\"[^\"]*\"", "\"\"");
    }

    private static void words() throws Exception {
        String source = source();
        String[] refused = {"throw", "throws", "try", "catch", "synchronized", "assert", "package", "import",
            "protected", "System\\.(?!arraycopy)", "->", "::", "Exact", "Random", "Thread", "toString", "hashCode"};
        for (String word : refused) {
            String edge = word.matches("\\w+") ? "\\b" : "";
            checks.due("uses of " + word, Pattern.compile(edge + word + edge).matcher(source).results().count(), 0);
        }
        long classes = Pattern.compile("\\bclass\\s").matcher(source).results().count();
        checks.due("at most twelve classes", classes <= 12 ? 1 : 0, 1);
    }

    private static void methodNames() throws Exception {
        List<String> open = new ArrayList<>();
        for (String method : FACE) {
            open.add(method.substring(0, method.indexOf('(')));
        }
        Matcher declared = Pattern.compile("(?m)^ +(?:private )?(?:static )?\\w+(?:\\[\\])? (\\w+)\\([^;]*\\) \\{")
            .matcher(source());
        int seen = 0;
        while (declared.find()) {
            seen++;
            boolean clash = open.contains(declared.group(1));
            checks.due("a method inside named " + declared.group(1), clash ? 1 : 0, 0);
        }
        checks.due("methods are found", seen > 10 ? 1 : 0, 1);
    }

    /** A room has 7.3 million elements; the dearest run of 512 calls must stay far below, at 8 bytes each. */
    private static void room() {
        com.sun.management.ThreadMXBean threads = (com.sun.management.ThreadMXBean) ManagementFactory.getThreadMXBean();
        long self = Thread.currentThread().getId();
        for (int kind = 0; kind < 3; kind++) {
            long before = threads.getThreadAllocatedBytes(self);
            dearRun(kind);
            long took = threads.getThreadAllocatedBytes(self) - before;
            checks.due("room of run " + kind + ", " + took + " bytes", took < 1_000_000 ? 1 : 0, 1);
        }
    }

    private static void dearRun(int kind) {
        RoofCourses roof = new RoofCourses();
        for (int call = 0; call < 512; call++) {
            if (kind == 0) {
                roof.itself(call % 2, 0);
            } else if (kind == 1 && call % 2 == 0) {
                roof.course(40);
            } else if (kind == 1) {
                roof.up();
            } else {
                roof.lay();
            }
        }
    }
}
