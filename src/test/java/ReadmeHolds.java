import java.io.IOException;
import java.lang.reflect.InvocationTargetException;
import java.lang.reflect.Method;
import java.lang.reflect.Modifier;
import java.nio.file.Files;
import java.nio.file.Path;
import java.util.List;
import java.util.Set;
import java.util.TreeSet;
import java.util.regex.Matcher;
import java.util.regex.Pattern;
import java.util.stream.Collectors;
import java.util.stream.Stream;

/** Holds README.md to the class and to the tests that there are: what it says must be so. */
public final class ReadmeHolds extends Checks {
    private static final Pattern TEXT = Pattern.compile("String text = \"([^\"]*)\";");
    private static final Pattern CALL = Pattern.compile("(?m)^x\\.(\\w+)\\(([^)]*)\\);(.*)$");
    private static final Pattern ANSWER = Pattern.compile("\\s*// (-?\\w+): .+");

    public static void main(String[] args) throws IOException, ReflectiveOperationException {
        Path root = Path.of(args.length > 0 ? args[0] : ".");
        String page = Files.readString(root.resolve("README.md"));
        example(page);
        clauses(page);
        callsNamed(page);
        filesNamed(root, page);
        testsNamed(root, page);
        end("README.md holds");
    }

    /** The calls of the example, from the first to the last, each with the answer told behind it. */
    private static void example(String page) throws ReflectiveOperationException {
        heading = "the example";
        Matcher block = Pattern.compile("(?s)```java\n(.*?)```").matcher(page);
        due("a block of calls", block.find() ? "there" : "not there", "there");
        String code = block.group(1);
        Matcher text = TEXT.matcher(code);
        due("its text", text.find() ? "there" : "not there", "there");
        SingleCopy x = new SingleCopy();
        tell(x, text.group(1));
        int calls = 0;
        for (Matcher call = CALL.matcher(code); call.find(); calls++) {
            Matcher answer = ANSWER.matcher(call.group(3));
            if (!answer.matches()) {
                due(call.group(), "without an answer", "with one");
            } else {
                due(call.group(1) + "(" + call.group(2) + ")", answered(x, call.group(1), call.group(2)), number(answer.group(1)));
            }
        }
        due("calls", calls > 10 ? "many" : "few: " + calls, "many");
    }

    private static int number(String told) throws ReflectiveOperationException {
        return told.matches("-?\\d+") ? Integer.parseInt(told) : SingleCopy.class.getField(told).getInt(null);
    }

    private static int answered(SingleCopy x, String name, String told) throws ReflectiveOperationException {
        String[] parts = told.isEmpty() ? new String[0] : told.split(", ");
        Class<?>[] types = new Class<?>[parts.length];
        Object[] numbers = new Object[parts.length];
        for (int i = 0; i < parts.length; i++) {
            types[i] = int.class;
            numbers[i] = number(parts[i]);
        }
        try {
            return (int) SingleCopy.class.getMethod(name, types).invoke(x, numbers);
        } catch (InvocationTargetException thrown) {
            throw new IllegalStateException("README says that no call throws: " + name, thrown.getCause());
        }
    }

    /** The bounds that the table of clauses tells: the least and the greatest are read, what lies beyond is a fault. */
    private static void clauses(String page) {
        heading = "the clauses";
        for (String told : List.of("`r K B,B,..;`", "`f O D P V C;`", "`h H;`")) {
            due(told, page.contains("| " + told + " |") ? "there" : "not there", "there");
        }
        String[] fine = {"r1 0;", "r3 20,20,20,20,20;", "r1 0;f0 0 9 0 0;", "r1 0;f0 18 0 20 9;", "r1 0;" + "f0 9 9 0 0;".repeat(8),
            "r1 0;h1;", "r1 0;h20;", " r 1 0 , 20 ; f 0 9 9 0 0 ; h 10 ; "};
        String[] faulty = {"r0 0;", "r4 0;", "r1;", "r1 21;", "r1 0,0,0,0,0,0;", "r1 0;f1 9 9 0 0;", "r1 0;f0 19 9 0 0;",
            "r1 0;f0 9 1 0 0;", "r1 0;f0 9 9 21 0;", "r1 0;f0 9 9 0 10;", "r1 0;" + "f0 9 9 0 0;".repeat(9), "r1 0;h0;", "r1 0;h21;",
            "r1 0;h1;h1;", "r1 0;r1 0;", "h1;r1 0;", "f0 9 9 0 0;r1 0;", "r1 2 0;"};
        for (String text : fine) {
            due("a fault in " + text, Math.min(0, read(new SingleCopy(), text)), 0);
        }
        for (String text : faulty) {
            due("a fault in " + text, read(new SingleCopy(), text) < -10 ? "one" : "none", "one");
        }
        SingleCopy x = new SingleCopy();
        tell(x, " ".repeat(240));
        due("the 241st letter", x.feed(' '), FULL);
        due("the untold H", of("r1 0;").told(3), 10);
    }

    private static void callsNamed(String page) {
        heading = "the calls";
        String table = between(page, "The calls:", "No call throws.");
        Set<String> named = new TreeSet<>();
        for (Matcher m = Pattern.compile("`(\\w+)`").matcher(table); m.find();) {
            named.add(m.group(1));
        }
        Set<String> face = new TreeSet<>();
        for (Method m : SingleCopy.class.getDeclaredMethods()) {
            if (Modifier.isPublic(m.getModifiers())) {
                face.add(m.getName());
            }
        }
        due("named", named.toString(), face.toString());
        for (String constant : List.of("NONE", "UNKNOWN", "OUTSIDE", "NOT", "FULL")) {
            due(constant, page.contains("`" + constant + "`") ? "named" : "not named", "named");
        }
    }

    private static String between(String page, String first, String last) {
        int start = page.indexOf(first);
        int end = page.indexOf(last, Math.max(0, start));
        due("from '" + first + "' to '" + last + "'", start >= 0 && end >= 0 ? "there" : "not there", "there");
        return start >= 0 && end >= 0 ? page.substring(start, end) : "";
    }

    private static void filesNamed(Path root, String page) {
        heading = "the files";
        for (Matcher m = Pattern.compile("`((?:src|\\.ci|\\.\\./shared)[\\w./]*)`").matcher(page); m.find();) {
            due(m.group(1), Files.exists(root.resolve(m.group(1))) ? "there" : "not there", "there");
        }
        due(".ci/run can be run", Files.isExecutable(root.resolve(".ci/run")) ? "yes" : "no", "yes");
    }

    private static void testsNamed(Path root, String page) throws IOException {
        heading = "the tests";
        for (String test : filesIn(root.resolve("src/test/java"))) {
            due(test, page.contains("`src/test/java/" + test + "`") ? "named" : "not named", "named");
        }
        for (String shared : filesIn(root.resolve("src/test/support"))) {
            String name = shared.replace(".java", "");
            due(shared, page.contains("`" + name + "`") ? "named" : "not named", "named");
        }
    }

    private static List<String> filesIn(Path folder) throws IOException {
        try (Stream<Path> files = Files.list(folder)) {
            return files.map(f -> f.getFileName().toString()).sorted().collect(Collectors.toList());
        }
    }
}
