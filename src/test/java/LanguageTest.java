import java.io.IOException;
import java.lang.reflect.Field;
import java.lang.reflect.Method;
import java.lang.reflect.Modifier;
import java.nio.file.Files;
import java.nio.file.Path;
import java.util.ArrayList;
import java.util.List;
import java.util.Set;
import java.util.TreeSet;
import java.util.regex.Matcher;
import java.util.regex.Pattern;

/** The rules of LANGUAGE.md that can be seen in the text of the program or in its classes. */
public final class LanguageTest {
    private static final Due due = new Due("LanguageTest");
    private static final Path PROGRAM = Path.of("src/main/java/SeptetCentre.java");
    private static final Set<String> IMPORTS = Set.of("java.util.ArrayList", "java.util.List", "java.util.Arrays");
    private static final Set<Class<?>> STATIC_TYPES = Set.of(int.class, long.class, boolean.class, char.class,
        String.class, int[].class, long[].class, char[].class, byte[].class);
    private static final Set<Class<?>> ENUM_TYPES = Set.of(int.class, long.class, boolean.class, String.class);
    /** What the rules leave out, or leave in only for what this program has no need of. */
    private static final String[] LEFT_OUT = {
        "package", "throw", "throws", "try", "catch", "finally", "synchronized", "assert", "volatile", "native",
        "strictfp", "double", "float", "Double", "Float", "Object", "Class", "Thread", "Random", "Runtime", "System",
        "Optional", "Collections", "Map", "HashMap", "Set", "Iterator", "equals", "hashCode", "toString", "getClass",
        "stream", "forEach", "sort", "var", "yield",
    };
    private static final int MOST_METHOD_LINES = 60;

    public static void main(String[] args) throws IOException {
        String program = withoutComments(Files.readString(PROGRAM));
        words(program);
        signs(program);
        imports(program);
        methodLines(program);
        staticFields();
        parametersAndFields();
        namesOfTheFace();
        due.end();
    }

    private static String withoutComments(String program) {
        return program.replaceAll("(?s)/\\*.*?\\*/", "").replaceAll("//[^\n]*", "");
    }

    private static void words(String program) {
        due.about("rules 3, 4, 6, 10 and 13");
        for (String word : LEFT_OUT) {
            due.is(word + " stands there", Pattern.compile("\\b" + word + "\\b").matcher(program).find(), false);
        }
    }

    private static void signs(String program) {
        due.about("rule 2");
        due.is("a lambda", program.contains("->"), false);
        due.is("a method reference", program.contains("::"), false);
        due.about("rule 3");
        due.is("characters beyond 255", program.chars().anyMatch(c -> c > 255), false);
        due.about("rule 5");
        due.is("a static block", Pattern.compile("\\bstatic\\s*\\{").matcher(program).find(), false);
        due.about("rule 10");
        due.is("a text that is joined by +", Pattern.compile("\"\\s*\\+|\\+\\s*\"").matcher(program).find(), false);
        due.about("rule 9");
        due.is("a loop without a bound", Pattern.compile("while\\s*\\(true\\)|for\\s*\\(;;\\)").matcher(program).find(),
            false);
    }

    private static void imports(String program) {
        due.about("rule 4");
        Matcher line = Pattern.compile("\\bimport\\s+([^;]+);").matcher(program);
        while (line.find()) {
            due.is("import of " + line.group(1), IMPORTS.contains(line.group(1)), true);
        }
    }

    private static void methodLines(String program) {
        due.about("rule 11");
        // Methods of the class stand one level deep, those of the classes inside it two levels.
        Matcher method = Pattern.compile("(?m)^( {4}| {8})(?=\\S)[\\w<>\\[\\] ]+\\([^)]*\\) \\{\n").matcher(program);
        int found = 0;
        while (method.find()) {
            int end = program.indexOf("\n" + method.group(1) + "}", method.end() - 1);
            long lines = program.substring(method.start(), end + 1).lines().count() + 1;
            due.is(method.group().trim() + " has at most sixty lines", lines <= MOST_METHOD_LINES, true);
            found++;
        }
        due.is("methods were found", found > 20, true);
    }

    private static List<Class<?>> classes() {
        List<Class<?>> all = new ArrayList<>(List.of(SeptetCentre.class));
        all.addAll(List.of(SeptetCentre.class.getDeclaredClasses()));
        return all;
    }

    private static void staticFields() {
        for (Class<?> one : classes()) {
            for (Field field : one.getDeclaredFields()) {
                String name = one.getSimpleName() + "." + field.getName();
                boolean isStatic = Modifier.isStatic(field.getModifiers());
                due.about("rule 5");
                if (isStatic && !field.isEnumConstant() && !field.isSynthetic()) {
                    due.is(name + " is of a type for constants", STATIC_TYPES.contains(field.getType()), true);
                }
                due.about("rule 2");
                if (one.isEnum() && !isStatic) {
                    due.is(name + " is of a type for enums", ENUM_TYPES.contains(field.getType()), true);
                }
            }
        }
    }

    private static void parametersAndFields() {
        due.about("rule 11");
        for (Class<?> one : classes()) {
            int fields = 0;
            for (Field field : one.getDeclaredFields()) {
                fields += Modifier.isStatic(field.getModifiers()) ? 0 : 1;
            }
            due.is(one.getSimpleName() + " has at most twenty fields", fields <= 20, true);
            for (Method method : one.getDeclaredMethods()) {
                due.is(method.getName() + " has at most seven parameters", method.getParameterCount() <= 7, true);
            }
        }
    }

    private static void namesOfTheFace() {
        due.about("rule 1");
        Set<String> face = new TreeSet<>();
        for (Method method : SeptetCentre.class.getMethods()) {
            face.add(method.getName());
        }
        for (Class<?> one : SeptetCentre.class.getDeclaredClasses()) {
            for (Method method : one.getDeclaredMethods()) {
                boolean ofItsOwn = !(one.isEnum() && Modifier.isStatic(method.getModifiers()));
                due.is(one.getSimpleName() + "." + method.getName() + " bears a name of the face",
                    ofItsOwn && face.contains(method.getName()), false);
            }
        }
    }
}
