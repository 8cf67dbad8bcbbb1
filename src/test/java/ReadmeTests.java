import java.io.File;
import java.io.IOException;
import java.lang.reflect.Method;
import java.lang.reflect.Modifier;
import java.net.URL;
import java.net.URLClassLoader;
import java.nio.file.Files;
import java.nio.file.Path;
import java.util.ArrayList;
import java.util.List;
import java.util.TreeSet;
import java.util.regex.Matcher;
import java.util.regex.Pattern;
import javax.tools.ToolProvider;

/** What README.md says: its code is compiled and run, and each answer it tells is held against the real one. */
public final class ReadmeTests {
    private static final Path README = Path.of("README.md");
    private static final Path TESTS = Path.of("src/test/java");
    private static final Pattern BLOCK = Pattern.compile("(?ms)^```java\n(.*?)^```$");
    private static final Pattern ANSWERED =
        Pattern.compile("(\\w+\\.(\\w+)\\([^;]*\\)); +// (-?\\d+|BAD|FULL|NONE|true|false)(:.*)?");
    private static final Pattern TEST_NAMED = Pattern.compile("(?m)^- `src/test/java/(\\w+\\.java)`");

    private static final String HEAD = """
        public final class ReadmeCode {
            private static final int BAD = -1;
            private static final int FULL = -2;
            private static final int NONE = -3;
            private static int wrong = 0;
            private static void due(String call, Object got, Object want) {
                if (!got.equals(want)) {
                    wrong++;
                    System.out.println(call + " answered " + got + ", README.md says " + want);
                }
            }
            public static int run() {
        """;
    private static final String FOOT = "return wrong; } }\n";

    private static int wrong = 0;

    private static void check(boolean holds, String fault) {
        if (!holds) {
            wrong++;
            System.out.println(fault);
        }
    }

    /** The code with a comparison in the place of each call that has an answer behind it. */
    private static String comparing(String readme, TreeSet<String> shown) {
        StringBuilder code = new StringBuilder(HEAD);
        Matcher block = BLOCK.matcher(readme);
        while (block.find()) {
            for (String line : block.group(1).split("\n")) {
                Matcher call = ANSWERED.matcher(line);
                if (call.matches()) {
                    shown.add(call.group(2));
                    code.append(String.format("due(\"%1$s\", %1$s, %2$s);%n", call.group(1), call.group(3)));
                } else {
                    check(!line.matches("\\w+\\..*"), "README.md tells no answer of: " + line);
                    code.append(line).append('\n');
                }
            }
        }
        return code.append(FOOT).toString();
    }

    private static int run(String code) throws IOException, ReflectiveOperationException {
        Path dir = Files.createTempDirectory("readme");
        Path source = dir.resolve("ReadmeCode.java");
        try {
            Files.writeString(source, code);
            int answer = ToolProvider.getSystemJavaCompiler().run(null, null, null, "-d", dir.toString(),
                "-cp", System.getProperty("java.class.path"), source.toString());
            if (answer != 0) {
                System.out.println("the code in README.md does not compile");
                return 1;
            }
            try (URLClassLoader loader = new URLClassLoader(new URL[] {dir.toUri().toURL()})) {
                return (Integer) loader.loadClass("ReadmeCode").getMethod("run").invoke(null);
            }
        } finally {
            for (File file : dir.toFile().listFiles()) {
                file.delete();
            }
            Files.delete(dir);
        }
    }

    private static void everyCallIsShown(TreeSet<String> shown) {
        for (Method method : AreaMap.class.getDeclaredMethods()) {
            if (Modifier.isPublic(method.getModifiers())) {
                check(shown.contains(method.getName()), "README.md shows no call of " + method.getName());
            }
        }
    }

    private static void everyTestIsNamed(String readme) {
        List<String> named = new ArrayList<>();
        Matcher test = TEST_NAMED.matcher(readme);
        while (test.find()) {
            named.add(test.group(1));
        }
        TreeSet<String> there = new TreeSet<>(List.of(TESTS.toFile().list()));
        check(new TreeSet<>(named).equals(there), "README.md names the tests " + named + ", there are " + there);
        check(readme.contains("\n    .ci/run\n"), "README.md does not tell to run .ci/run");
        check(Files.isExecutable(Path.of(".ci/run")), ".ci/run can't be run as README.md tells");
    }

    public static void main(String[] args) throws IOException, ReflectiveOperationException {
        String readme = Files.readString(README);
        TreeSet<String> shown = new TreeSet<>();
        String code = comparing(readme, shown);
        wrong += run(code);
        everyCallIsShown(shown);
        everyTestIsNamed(readme);
        System.out.println(wrong == 0 ? "README.md says what is so" : wrong + " faults in README.md");
        if (wrong != 0) {
            System.exit(1);
        }
    }
}
