import java.io.IOException;
import java.lang.reflect.Constructor;
import java.lang.reflect.Field;
import java.lang.reflect.Method;
import java.lang.reflect.Modifier;
import java.nio.file.Files;
import java.nio.file.Path;
import java.util.Arrays;
import java.util.Set;
import java.util.TreeSet;
import java.util.regex.Matcher;
import java.util.regex.Pattern;

/** The public face of the document, and the rules of LANGUAGE.md that can be seen without reading closely. */
public final class FaceTests {
    private static final Set<String> FACE = new TreeSet<>(Arrays.asList(
        "int map(int, int, int)", "int place(int, int, int)", "int free(int, int)", "int protect(int, int, int)",
        "int rights(int)", "int tag(int)", "int areas()", "int areaFirst(int)", "int areaLength(int)",
        "int areaOf(int)", "int mapped()", "int longestFree()", "boolean allows(int, int, int)",
        "int nextWith(int, int)", "AreaMap()", "int BAD = -1", "int FULL = -2", "int NONE = -3"));

    private static final Set<String> PLAIN_TYPES = new TreeSet<>(Arrays.asList(
        "int", "long", "short", "byte", "char", "boolean", "int[]", "long[]", "short[]", "byte[]", "char[]", "boolean[]"));

    private static final String[] FORBIDDEN_WORDS = {
        "import", "package", "float", "double", "String", "Math", "Integer", "System", "Arrays", "Object", "null",
        "throw", "throws", "try", "catch", "synchronized", "assert", "instanceof", "enum", "interface", "record",
    };

    private static int wrong = 0;

    private static void check(boolean holds, String fault) {
        if (!holds) {
            wrong++;
            System.out.println(fault);
        }
    }

    private static String parameters(Class<?>[] types) {
        return "(" + String.join(", ", Arrays.stream(types).map(Class::getSimpleName).toList()) + ")";
    }

    private static void face() throws IllegalAccessException {
        Set<String> seen = new TreeSet<>();
        Set<String> openNames = new TreeSet<>();
        for (Method method : AreaMap.class.getDeclaredMethods()) {
            if (!Modifier.isPrivate(method.getModifiers())) {
                openNames.add(method.getName());
                String kind = Modifier.isStatic(method.getModifiers()) ? "static " : "";
                seen.add(kind + method.getReturnType() + " " + method.getName() + parameters(method.getParameterTypes()));
                check(Modifier.isPublic(method.getModifiers()), "rule 1: " + method.getName() + " is not public");
            }
            check(method.getParameterCount() <= 7, "rule 10: " + method.getName() + " has over seven parameters");
            check(!method.getReturnType().isArray(), "rule 4: " + method.getName() + " answers an array");
        }
        for (Constructor<?> constructor : AreaMap.class.getDeclaredConstructors()) {
            seen.add("AreaMap" + parameters(constructor.getParameterTypes()));
            check(Modifier.isPublic(constructor.getModifiers()), "rule 1: a constructor is not public");
        }
        for (Method method : AreaMap.class.getDeclaredMethods()) {
            check(!Modifier.isPrivate(method.getModifiers()) || !openNames.contains(method.getName()),
                "rule 1: the private " + method.getName() + " bears the name of a public method");
        }
        fields(seen);
        check(seen.equals(FACE), "rule 1: the face is " + seen + ", due is " + FACE);
        int form = AreaMap.class.getModifiers();
        check(Modifier.isPublic(form) && Modifier.isFinal(form), "rule 1: the class is not public and final");
        check(AreaMap.class.getDeclaredClasses().length == 0, "rule 1: there is a nested class");
        check(AreaMap.class.getPackageName().isEmpty(), "rule 1: there is a package");
    }

    private static void fields(Set<String> seen) throws IllegalAccessException {
        for (Field field : AreaMap.class.getDeclaredFields()) {
            int form = field.getModifiers();
            String type = field.getType().getSimpleName();
            check(PLAIN_TYPES.contains(type), "rule 2: the field " + field.getName() + " is of type " + type);
            if (Modifier.isStatic(form)) {
                check(Modifier.isFinal(form) && (type.equals("int") || type.equals("long")),
                    "rule 5: the static field " + field.getName() + " is not a constant of int or long");
            }
            if (Modifier.isPublic(form) && Modifier.isStatic(form)) {
                seen.add(type + " " + field.getName() + " = " + field.get(null));
            } else {
                check(Modifier.isPrivate(form), "rule 1: the field " + field.getName() + " is not private");
            }
        }
    }

    private static void words() throws IOException {
        String text = Files.readString(Path.of("src/main/java/AreaMap.java"));
        String code = text.replaceAll("(?s)/\\*.*?\\*/", " ").replaceAll("//[^\n]*", " ");
        for (String word : FORBIDDEN_WORDS) {
            Matcher matcher = Pattern.compile("\\b" + word + "\\b").matcher(code);
            check(!matcher.find(), "the word " + word + " stands in AreaMap.java");
        }
        check(!code.contains("\""), "rule 2: a string stands in AreaMap.java");
        check(!code.contains("->") && !code.contains("::"), "rule 6: a lambda or method reference stands in AreaMap.java");
        Matcher made = Pattern.compile("\\bnew\\b").matcher(code);
        Matcher madeInField = Pattern.compile("(?m)^ {4}private final \\w+\\[] \\w+ = new \\w+\\[[A-Z_0-9]+];$").matcher(code);
        check(made.results().count() == madeInField.results().count(),
            "rule 4: something is made elsewhere than in a field's initialiser");
    }

    public static void main(String[] args) throws IllegalAccessException, IOException {
        face();
        words();
        System.out.println(wrong == 0 ? "the face and the rules are kept" : wrong + " faults");
        if (wrong != 0) {
            System.exit(1);
        }
    }
}
