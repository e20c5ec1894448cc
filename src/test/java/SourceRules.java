import java.lang.reflect.Method;
import java.lang.reflect.Modifier;
import java.nio.file.Files;
import java.nio.file.Path;
import java.util.List;
import java.util.Set;
import java.util.TreeSet;
import java.util.regex.Matcher;
import java.util.regex.Pattern;

/** Holds the class against the rules of LANGUAGE.md that a look at its text and its face can tell. */
public final class SourceRules {
    private static final List<String> METHODS = List.of("feed", "city", "fault", "told", "belief", "fact", "night", "meet", "make",
        "drift", "undo", "thinks", "soonest", "cannot", "least", "rivals", "shun", "holds", "worn", "thought", "leftOut", "strengths",
        "write", "tear", "judge", "seed", "keep", "goBack");

    private static int wrong = 0;

    public static void main(String[] args) throws Exception {
        Path root = Path.of(args.length > 0 ? args[0] : ".");
        String source = Files.readString(root.resolve("src/main/java/SingleCopy.java"));
        String code = source.replaceAll("(?s)/\\*.*?\\*/", "").replaceAll("//[^\n]*", "");
        face();
        words(code);
        indexes(code);
        lengths(code);
        if (source.chars().anyMatch(c -> c > 126)) {
            tell("a sign above 126");
        }
        System.out.println(wrong == 0 ? "the source keeps to the rules looked at" : wrong + " rules are broken");
        if (wrong != 0) {
            System.exit(1);
        }
    }

    private static void tell(String what) {
        wrong++;
        System.out.println(what);
    }

    private static void face() {
        Set<String> open = new TreeSet<>();
        for (Method m : SingleCopy.class.getDeclaredMethods()) {
            if (!Modifier.isPrivate(m.getModifiers())) {
                open.add(m.getName());
            } else if (METHODS.contains(m.getName())) {
                tell("a private method bears the name of a public one: " + m.getName());
            }
            if (m.getParameterCount() > 7) {
                tell("more than seven parameters: " + m.getName());
            }
        }
        if (!open.equals(new TreeSet<>(METHODS))) {
            tell("the public methods are " + open);
        }
        for (java.lang.reflect.Field f : SingleCopy.class.getDeclaredFields()) {
            boolean constant = List.of("NONE", "UNKNOWN", "OUTSIDE", "NOT", "FULL").contains(f.getName());
            if (constant != Modifier.isPublic(f.getModifiers()) || !constant && !Modifier.isPrivate(f.getModifiers())) {
                tell("a field that is open, or a constant that is not: " + f.getName());
            }
        }
        for (Class<?> c : SingleCopy.class.getDeclaredClasses()) {
            for (Method m : c.getDeclaredMethods()) {
                if (METHODS.contains(m.getName())) {
                    tell("a method inside bears the name of a public one: " + m.getName());
                }
            }
        }
        if (SingleCopy.class.getDeclaredClasses().length > 12) {
            tell("more than twelve classes");
        }
    }

    private static void words(String code) {
        Matcher m = Pattern.compile("\\b(throw|throws|try|catch|finally|synchronized|assert|import|package|instanceof|goto|var|yield"
            + "|protected|volatile|transient|native|double|float|System|Thread|Random|Object|equals|hashCode|toString)\\b|->|::|@")
            .matcher(code);
        while (m.find()) {
            tell("'" + m.group() + "' stands in the source");
        }
        m = Pattern.compile("\\b([A-Z]\\w*)\\.(\\w+)\\(").matcher(code);
        while (m.find()) {
            if (!List.of("Math.max", "Math.min", "Integer.bitCount").contains(m.group(1) + "." + m.group(2))) {
                tell("a call of the library: " + m.group());
            }
        }
        m = Pattern.compile("static (?!final)[^(\n]*[;=]").matcher(code);
        while (m.find()) {
            tell("static state: " + m.group());
        }
    }

    /** Rows are looked into by at() and put() alone, which test the index. */
    private static void indexes(String code) {
        Matcher m = Pattern.compile("[\\w)]\\[[^\\]]+\\]").matcher(code);
        int count = 0;
        while (m.find()) {
            if (m.group().equals("w[i]")) {
                count++;
            } else if (!Pattern.compile("new int" + Pattern.quote(m.group().substring(1))).matcher(code).find()) {
                tell("a row is looked into: " + m.group());
            }
        }
        if (count != 2) {
            tell("rows are looked into at " + count + " places");
        }
        m = Pattern.compile("[/%]=? *([\\w(.]+)").matcher(code);
        while (m.find()) {
            if (!List.of("100", "3", "65536", "2", "MOST_UNDONE", "by", "n").contains(m.group(1))) {
                tell("a divisor that was not looked at: " + m.group());
            }
        }
    }

    private static void lengths(String code) {
        int start = -1;
        String[] lines = code.split("\n");
        for (int i = 0; i < lines.length; i++) {
            if (lines[i].matches("( {4}| {8})(private|public) [\\w\\[\\] ]+\\([^;]*\\{")) {
                start = i;
            } else if (start >= 0 && lines[i].matches("( {4}| {8})\\}")) {
                if (i - start > 60) {
                    tell("a long method: " + lines[start].trim());
                }
                start = -1;
            }
            if (lines[i].length() > 130) {
                tell("a long line: " + (i + 1));
            }
        }
    }
}
