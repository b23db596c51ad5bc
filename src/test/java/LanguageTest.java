import java.io.IOException;
import java.lang.reflect.Constructor;
import java.lang.reflect.Field;
import java.lang.reflect.Method;
import java.lang.reflect.Modifier;
import java.nio.file.Files;
import java.nio.file.Path;
import java.util.ArrayList;
import java.util.Arrays;
import java.util.List;
import java.util.Set;
import java.util.TreeSet;
import java.util.regex.Matcher;
import java.util.regex.Pattern;

/** The rules of ../shared/LANGUAGE.md that can be looked up: the face by reflection, the words of the file. */
public final class LanguageTest {
    private static final String[] FACE = {"int feed(int)", "int town()", "int person(int, int)", "int of(int, int)",
        "int know(int, int, boolean)", "int row(int, int)", "int told(int)", "int begin(int, int)", "int day()",
        "long sum(int)", "int enough(int)", "int end(int)", "int best(int, int)", "int choice(int, int)",
        "int reach(int, int)", "int see(int, int)", "int began(int)", "int stops(int)", "long odds(int, int, int)",
        "long mean(int, int)", "int book(int, int)", "int looked()", "int act(int, int, int)", "int trace(int)",
        "int as(int, int)", "int image()", "int undo()", "int count(int)"};
    private static final String[] CONSTANTS = {"int NONE", "int BAD", "int STATE", "int FULL", "long NO"};
    private static final String[] FORBIDDEN = {"throw", "try", "catch", "synchronized", "assert", "import", "package",
        "protected", "instanceof", "hashCode", "static \\{", "->", "::", "Exact\\(", "while \\(true", "for \\(;;",
        "Math\\.random", "System\\.(?!arraycopy)", "Thread", "@Override", "abstract", "interface"};
    private static int wrong = 0;

    private static void rule(int rule, boolean is, String told) {
        if (!is) {
            wrong++;
            System.out.println("rule " + rule + ": " + told);
        }
    }

    private static String shape(Method method) {
        StringBuilder shape = new StringBuilder(method.getReturnType() + " " + method.getName() + "(");
        for (Class<?> type : method.getParameterTypes()) {
            shape.append(shape.toString().endsWith("(") ? "" : ", ").append(type);
        }
        return shape.append(")").toString();
    }

    private static void face() {
        Set<String> open = new TreeSet<>();
        Set<String> names = new TreeSet<>();
        for (Method method : OneFewer.class.getDeclaredMethods()) {
            if (!Modifier.isPrivate(method.getModifiers())) {
                open.add(shape(method));
                names.add(method.getName());
                rule(1, method.getModifiers() == Modifier.PUBLIC, shape(method) + " is more than public");
            }
        }
        rule(1, open.equals(new TreeSet<>(Arrays.asList(FACE))), "the methods are " + open);
        Set<String> constants = new TreeSet<>();
        for (Field field : OneFewer.class.getDeclaredFields()) {
            if (!Modifier.isPrivate(field.getModifiers())) {
                constants.add(field.getType() + " " + field.getName());
                rule(1, field.getModifiers() == (Modifier.PUBLIC | Modifier.STATIC | Modifier.FINAL), field.getName());
            }
        }
        rule(1, constants.equals(new TreeSet<>(Arrays.asList(CONSTANTS))), "the constants are " + constants);
        Constructor<?>[] constructors = OneFewer.class.getDeclaredConstructors();
        rule(1, constructors.length == 1 && constructors[0].getModifiers() == Modifier.PUBLIC
            && constructors[0].getParameterCount() == 0, "the constructor");
        rule(1, OneFewer.class.getModifiers() == (Modifier.PUBLIC | Modifier.FINAL), "the class");
        inside(names);
    }

    private static void inside(Set<String> names) {
        Class<?>[] inside = OneFewer.class.getDeclaredClasses();
        rule(11, inside.length <= 11, "there are " + inside.length + " classes inside");
        for (Class<?> type : inside) {
            rule(2, Modifier.isStatic(type.getModifiers()), type + " is not static");
            rule(1, !Modifier.isPublic(type.getModifiers()) && !Modifier.isProtected(type.getModifiers()), type + "");
            rule(11, fields(type) <= 20, type + " has " + fields(type) + " fields");
            for (Method method : type.getDeclaredMethods()) {
                rule(1, !names.contains(method.getName()), type + " has a " + method.getName());
                rule(11, method.getParameterCount() <= 7, shape(method));
            }
        }
        for (Method method : OneFewer.class.getDeclaredMethods()) {
            rule(1, Modifier.isPublic(method.getModifiers()) || !names.contains(method.getName()), shape(method));
            rule(11, method.getParameterCount() <= 7, shape(method));
        }
        rule(11, fields(OneFewer.class) <= 20, "the class has " + fields(OneFewer.class) + " fields");
    }

    private static int fields(Class<?> type) {
        int fields = 0;
        for (Field field : type.getDeclaredFields()) {
            fields += Modifier.isStatic(field.getModifiers()) ? 0 : 1;
            rule(5, !Modifier.isStatic(field.getModifiers()) || Modifier.isFinal(field.getModifiers()), field + "");
        }
        return fields;
    }

    private static void words() throws IOException {
        String text = Files.readString(Path.of("src/main/java/OneFewer.java"));
        String code = text.replaceAll("(?s)/\\*.*?\\*/", "").replaceAll("//[^\n]*", "");
        for (String word : FORBIDDEN) {
            boolean isWord = word.matches("[a-z]+");
            Matcher found = Pattern.compile(isWord ? "\\b" + word + "\\b" : word).matcher(code);
            rule(6, !found.find(), "there is a " + word);
        }
        rule(6, !code.replaceAll("\"[^\"]*\"", "t").matches("(?s).*(t \\+ |\\+ t\\b).*"), "texts are joined by +");
        made(code);
        lengths(code);
    }

    /** What is made is made where an object is made: no call makes anything. */
    private static void made(String code) {
        for (String line : code.split("\n")) {
            boolean isField = line.matches("\\s*private final [\\w\\[\\]]+ \\w+ = new .*");
            boolean isOfConstructor = line.matches("\\s*(asking|kept|reader|acts|firsts|seconds) = new .*");
            rule(12, !line.contains("new ") || isField || isOfConstructor, "made by a call: " + line.trim());
        }
    }

    private static void lengths(String code) {
        int length = 0;
        boolean isIn = false;
        for (String line : code.split("\n")) {
            if (line.matches("\\s+(public|private).*\\) \\{")) {
                isIn = true;
                length = 0;
            }
            length += isIn ? 1 : 0;
            rule(11, length <= 60, "a long method at " + line);
            isIn &= !line.trim().isEmpty();
        }
    }

    /** What one object is made of, itself and all that it holds: objects and arrays, fields and elements. */
    private static void room() throws IllegalAccessException {
        List<Object> made = new ArrayList<>(List.of(new OneFewer()));
        int parts = 0;
        for (int i = 0; i < made.size(); i++) {
            Object one = made.get(i);
            if (one instanceof int[]) {
                parts += ((int[]) one).length;
                continue;
            }
            for (Field field : one.getClass().getDeclaredFields()) {
                if (!Modifier.isStatic(field.getModifiers())) {
                    parts++;
                    field.setAccessible(true);
                    Object held = field.getType().isPrimitive() ? null : field.get(one);
                    if (held != null && made.stream().noneMatch(other -> other == held)) {
                        made.add(held);
                    }
                }
            }
        }
        // a thousand objects fit into one room with much to spare
        rule(12, made.size() <= 100, "an object is made of " + made.size() + " objects and arrays");
        rule(12, parts <= 2500, "an object has " + parts + " fields and elements");
    }

    public static void main(String[] args) throws IOException, IllegalAccessException {
        face();
        words();
        room();
        System.out.println(wrong == 0 ? "the rules are kept" : wrong + " breaks of a rule");
        if (wrong != 0) {
            System.exit(1);
        }
    }
}
