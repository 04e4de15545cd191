import java.io.IOException;
import java.lang.reflect.Constructor;
import java.lang.reflect.Field;
import java.lang.reflect.Method;
import java.lang.reflect.Modifier;
import java.nio.file.Files;
import java.nio.file.Path;
import java.util.ArrayList;
import java.util.Arrays;
import java.util.List;
import java.util.Set;
import java.util.TreeSet;
import java.util.regex.Matcher;
import java.util.regex.Pattern;

/**
 * The document's public face, and the rules of ../shared/LANGUAGE.md as far as a test can look at them.
 * Division is left out as well, since the class needs none and a divisor of 0 would throw.
 */
public final class LanguageTest {
    private static final Check check = new Check("LanguageTest");
    private static final String[] LEFT_OUT = {
        "\\b(throw|throws|try|catch|finally|synchronized|assert|import|package|var|native|volatile)\\b",
        "->", "::", "\\w+Exact\\b", "\\bSystem\\.(?!arraycopy)", "\\bObject\\b", "\\bhashCode\\b", "\\btoString\\b",
        "\\bprotected\\b", "%", " / ", "\\bThread\\b", "@",
    };
    private static final String[] METHODS = {
        "int format(int, int, int, int, boolean, int)", "int about(int, int)", "int kind(int, int, int)",
        "long units(int, int)", "int code(int, long, long, int)", "int cross(int, int, int, int)",
        "int act(int, int, int, int, int)", "int fused(int, int, int, int, int)", "int next(int, int, boolean)",
        "int order(int, int, int)", "int numbers(int, long, long)", "int row(int, int, int)", "int put(int, int, int)",
        "int at(int, int)", "int packed(int, int)", "int quantise(int, int, int, int)", "int worst(int, int, int)",
        "int sum(int, int, boolean)", "int dot(int, int, int, boolean)", "int table(int, int, int)", "int lookup(int, int)",
        "int count(int)", "int told()",
    };

    public static void main(String[] args) throws IOException {
        String text = Files.readString(Path.of(args.length > 0 ? args[0] : "src/main/java/SmallFloats.java"));
        String code = text.replaceAll("(?s)/\\*.*?\\*/", "").replaceAll("//[^\n]*", "");
        wordsAndSigns(text, code);
        face();
        classesInside();
        staticFields();
        sizes(code);
        check.end();
    }

    private static void wordsAndSigns(String text, String code) {
        check.sentence("Rules 3, 4, 6, 10, 13", "what is left out");
        for (String pattern : LEFT_OUT) {
            Matcher found = Pattern.compile(pattern).matcher(code);
            check.same("the text for " + pattern, "", found.find() ? found.group() : "");
        }
        long odd = text.chars().filter(c -> c != '\n' && (c < ' ' || c > 126)).count();
        check.due("signs that are none of 32 to 126", 0, odd);
    }

    private static void face() {
        check.sentence("The public face and rule 1", "the public constructor, methods and constants of the document and no other");
        Set<String> methods = new TreeSet<>();
        Set<String> names = new TreeSet<>();
        for (Method m : SmallFloats.class.getDeclaredMethods()) {
            if (Modifier.isPublic(m.getModifiers())) {
                names.add(m.getName());
                String types = String.join(", ", Arrays.stream(m.getParameterTypes()).map(Class::getName).toList());
                methods.add(m.getReturnType() + " " + m.getName() + "(" + types + ")");
            }
        }
        check.same("the public methods", new TreeSet<>(List.of(METHODS)).toString(), methods.toString());
        Set<String> constants = new TreeSet<>();
        for (Field f : SmallFloats.class.getDeclaredFields()) {
            if (Modifier.isPublic(f.getModifiers())) {
                constants.add(f.getType() + " " + f.getName());
            }
        }
        check.same("the constants", "[int BAD, int FULL, int INVALID, int NONE, int STATE, long NO]", constants.toString());
        check.due("constructors", 1, SmallFloats.class.getDeclaredConstructors().length);
        Constructor<?> made = SmallFloats.class.getDeclaredConstructors()[0];
        check.due("its parameters", 0, made.getParameterCount());
        check.due("it is public", Modifier.PUBLIC, made.getModifiers());
        check.due("the class", Modifier.PUBLIC | Modifier.FINAL, SmallFloats.class.getModifiers());
        for (Method m : SmallFloats.class.getDeclaredMethods()) {
            boolean hidden = Modifier.isPrivate(m.getModifiers()) && !names.contains(m.getName());
            boolean fine = Modifier.isPublic(m.getModifiers()) || hidden;
            check.due("the method " + m.getName() + " is public, or private with a name of its own", 1, fine ? 1 : 0);
        }
        for (Field f : SmallFloats.class.getDeclaredFields()) {
            boolean constant = Modifier.isStatic(f.getModifiers()) && Modifier.isPublic(f.getModifiers());
            boolean fine = Modifier.isPrivate(f.getModifiers()) || constant;
            check.due("the field " + f.getName() + " is private or a constant", 1, fine ? 1 : 0);
        }
    }

    private static List<Class<?>> classes() {
        List<Class<?>> all = new ArrayList<>();
        all.add(SmallFloats.class);
        all.addAll(Arrays.asList(SmallFloats.class.getDeclaredClasses()));
        return all;
    }

    private static void classesInside() {
        check.sentence("Rules 1 and 2", "the classes inside it, which are private or package-visible and static");
        for (Class<?> c : SmallFloats.class.getDeclaredClasses()) {
            check.due(c.getName() + " is static", Modifier.STATIC, c.getModifiers() & Modifier.STATIC);
            check.due(c.getName() + " is public or protected", 0, c.getModifiers() & (Modifier.PUBLIC | Modifier.PROTECTED));
            check.due(c.getName() + " has classes of its own", 0, c.getDeclaredClasses().length);
        }
    }

    private static void staticFields() {
        check.sentence("Rule 5", "Static fields are final: constants of int, long, boolean, char or String");
        for (Class<?> c : classes()) {
            for (Field f : c.getDeclaredFields()) {
                if (Modifier.isStatic(f.getModifiers())) {
                    check.due(f.getName() + " is final", Modifier.FINAL, f.getModifiers() & Modifier.FINAL);
                    check.due(f.getName() + " is int or long", 1, f.getType() == int.class || f.getType() == long.class ? 1 : 0);
                }
            }
        }
    }

    private static void sizes(String code) {
        check.sentence("Rule 11", "at most seven parameters; some sixty lines; some twelve classes; some twenty fields");
        check.due("more than twelve classes", 0, classes().size() > 12 ? 1 : 0);
        for (Class<?> c : classes()) {
            long fields = Arrays.stream(c.getDeclaredFields()).filter(f -> !Modifier.isStatic(f.getModifiers())).count();
            check.due(c.getName() + " has more than twenty fields", 0, fields > 20 ? 1 : 0);
            for (Method m : c.getDeclaredMethods()) {
                check.due(m.getName() + " has more than seven parameters", 0, m.getParameterCount() > 7 ? 1 : 0);
            }
        }
        // A method's first line ends with ") {" and is indented by 4 or 8, its last one is "}" as far in.
        Matcher method = Pattern.compile("(?ms)^( {4}| {8})[a-z][^\n]*\\) \\{\n(.*?)^\\1\\}$").matcher(code);
        int methods = 0;
        while (method.find()) {
            methods++;
            check.due("a method of more than sixty lines", 0, method.group(2).lines().count() > 60 ? 1 : 0);
        }
        check.due("methods were found", 1, methods > 50 ? 1 : 0);
    }
}
