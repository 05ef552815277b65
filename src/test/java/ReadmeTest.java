import java.io.IOException;
import java.lang.reflect.Method;
import java.lang.reflect.Modifier;
import java.nio.file.Files;
import java.nio.file.Path;
import java.util.List;
import java.util.regex.Matcher;
import java.util.regex.Pattern;
import java.util.stream.Stream;

/**
 * What README.md shows must be so: its lines of Java are run in order, each call with the answer that
 * stands behind it; each call of the face and each test must be told. Argument: the project's directory.
 */
public final class ReadmeTest {
    private static final Pattern BLOCK = Pattern.compile("(?ms)^```java\n(.*?)^```$");
    private static final Pattern MADE = Pattern.compile("DictProof d = new DictProof\\(\\);");
    private static final Pattern WRITTEN = Pattern.compile("for \\(char c : \"([^\"]*)\"\\.toCharArray\\(\\)\\) d\\.letter\\(c\\);");
    private static final Pattern CALLED = Pattern.compile("d\\.(\\w+)\\(([^)]*)\\); +// (-?\\d+|[A-Z]+)\\b.*");

    private static int wrong = 0;
    private static int calls = 0;
    private static DictProof d = null;

    public static void main(String[] args) throws IOException, ReflectiveOperationException {
        Path project = Path.of(args.length > 0 ? args[0] : ".");
        String readme = Files.readString(project.resolve("README.md"));
        Matcher block = BLOCK.matcher(readme);
        while (block.find()) {
            for (String line : block.group(1).split("\n")) {
                run(line.trim());
            }
        }
        check("README.md shows calls", calls > 0);
        checkCallsTold(readme);
        checkTestsTold(readme, project.resolve("src/test/java"));
        check("README.md tells of .ci/run", readme.contains("`.ci/run`"));
        System.out.println(wrong == 0 ? calls + " calls of README.md are as shown" : wrong + " things in README.md are not so");
        if (wrong != 0) {
            System.exit(1);
        }
    }

    private static void check(String what, boolean so) {
        if (!so) {
            wrong++;
            System.out.println("not so: " + what);
        }
    }

    private static void run(String line) throws ReflectiveOperationException {
        Matcher written = WRITTEN.matcher(line);
        Matcher called = CALLED.matcher(line);
        if (MADE.matcher(line).matches()) {
            d = new DictProof();
        } else if (written.matches()) {
            for (char c : written.group(1).toCharArray()) {
                d.letter(c);
            }
        } else if (called.matches()) {
            calls++;
            long got = call(called.group(1), called.group(2));
            check(line + " (answered " + got + ")", got == numberOf(called.group(3)));
        } else {
            check("a line that can be run: " + line, line.isEmpty() || line.startsWith("//"));
        }
    }

    private static long numberOf(String shown) throws ReflectiveOperationException {
        return Character.isLetter(shown.charAt(0)) ? DictProof.class.getField(shown).getInt(null) : Long.parseLong(shown);
    }

    private static long call(String name, String given) throws ReflectiveOperationException {
        String[] texts = given.isEmpty() ? new String[0] : given.split(", ");
        Object[] values = Stream.of(texts).map(ReadmeTest::valueOf).toArray();
        return ((Number) methodOf(name).invoke(d, values)).longValue();
    }

    private static Object valueOf(String text) {
        return text.equals("true") || text.equals("false") ? (Object) Boolean.valueOf(text) : (Object) Integer.valueOf(text);
    }

    private static Method methodOf(String name) throws NoSuchMethodException {
        for (Method method : DictProof.class.getMethods()) {
            if (method.getName().equals(name)) {
                return method;
            }
        }
        throw new NoSuchMethodException(name);
    }

    /** Each call of the face has its row, with its parameters' count. */
    private static void checkCallsTold(String readme) {
        for (Method method : DictProof.class.getDeclaredMethods()) {
            if (Modifier.isPublic(method.getModifiers())) {
                Matcher row = Pattern.compile("(?m)^\\| `" + method.getName() + "\\((.*?)\\)` \\|").matcher(readme);
                boolean told = row.find();
                int many = told && !row.group(1).isEmpty() ? row.group(1).split(", ").length : 0;
                check("README.md has a row for " + method, told && many == method.getParameterCount());
            }
        }
    }

    private static void checkTestsTold(String readme, Path tests) throws IOException {
        List<String> names;
        try (Stream<Path> files = Files.list(tests)) {
            names = files.map(file -> file.getFileName().toString().replace(".java", "")).toList();
        }
        for (String name : names) {
            check("README.md tells of " + name, readme.contains("`" + name + "`"));
        }
    }
}
