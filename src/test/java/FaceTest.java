import java.io.IOException;
import java.lang.reflect.Constructor;
import java.lang.reflect.Field;
import java.lang.reflect.Method;
import java.lang.reflect.Modifier;
import java.nio.file.Files;
import java.nio.file.Path;
import java.util.Arrays;
import java.util.HashSet;
import java.util.Set;
import java.util.TreeSet;
import java.util.regex.Matcher;
import java.util.regex.Pattern;

/** The public face of the document, and the rules of LANGUAGE.md that the class and its text show. */
public final class FaceTest {
    private static final Path SOURCE = Path.of("src/main/java/BasicStrings.java");

    private static final Set<String> FACE = new TreeSet<>(Arrays.asList(
            "int BAD_ARG = -1", "int FULL = -2", "int TOO_FEW = -3", "int LONG = -5",
            "BasicStrings()", "int key(int)", "void newLine()", "int literal()", "int push(int)", "int let(int)",
            "int drop()", "int join()", "int left(int)", "int right(int)", "int mid(int, int)",
            "int repeat(int, int)", "int compare()", "int find(int, int)", "int setMid(int, int)",
            "int swap(int, int)", "int length(int)", "int at(int, int)", "int pile()", "int topLength()",
            "int topAt(int)", "int used()"));

    private static final String BANNED = "import|package|float|double|String|Math|Integer|System|Arrays|Object|null"
            + "|throw|throws|try|catch|finally|synchronized|assert|instanceof|protected|enum|interface|record|var"
            + "|Override|equals|hashCode|toString|getClass";

    private static final Checks checks = new Checks();

    public static void main(String[] args) throws Exception {
        theFace();
        theFields();
        theMethods();
        theText();
        checks.end();
    }

    private static void theFace() throws IllegalAccessException {
        Class<?> c = BasicStrings.class;
        Set<String> seen = new TreeSet<>();
        for (Field field : c.getDeclaredFields()) {
            if (!Modifier.isPrivate(field.getModifiers())) {
                checks.due("the modifiers of " + field.getName(), Modifier.toString(field.getModifiers()),
                        "public static final");
                seen.add(field.getType() + " " + field.getName() + " = " + field.get(null));
            }
        }
        for (Constructor<?> made : c.getDeclaredConstructors()) {
            checks.due("the constructor's modifiers", Modifier.toString(made.getModifiers()), "public");
            seen.add("BasicStrings" + parameters(made.getParameterTypes()));
        }
        for (Method method : c.getDeclaredMethods()) {
            if (!Modifier.isPrivate(method.getModifiers())) {
                checks.due("the modifiers of " + method.getName(), Modifier.toString(method.getModifiers()), "public");
                seen.add(method.getReturnType() + " " + method.getName() + parameters(method.getParameterTypes()));
            }
        }
        checks.due("the face", seen, FACE);
        checks.due("the class's modifiers", Modifier.toString(c.getModifiers()), "public final");
        checks.due("the nested classes", c.getDeclaredClasses().length, 0);
    }

    private static String parameters(Class<?>[] types) {
        String text = Arrays.toString(types);
        return "(" + text.substring(1, text.length() - 1) + ")";
    }

    private static void theFields() {
        for (Field field : BasicStrings.class.getDeclaredFields()) {
            Class<?> type = field.getType();
            Class<?> plain = type.isArray() ? type.getComponentType() : type;
            checks.due(field.getName() + " is of a plain type", plain.isPrimitive(), true);
            if (Modifier.isStatic(field.getModifiers())) {
                boolean constant = Modifier.isFinal(field.getModifiers()) && (type == int.class || type == long.class);
                checks.due(field.getName() + " is a constant", constant, true);
            }
        }
    }

    private static void theMethods() {
        Set<String> names = new HashSet<>();
        for (Method method : BasicStrings.class.getDeclaredMethods()) {
            checks.due(method.getName() + " is the only one of its name", names.add(method.getName()), true);
            checks.due(method.getName() + " answers an array", method.getReturnType().isArray(), false);
            checks.due(method.getName() + " has few parameters", method.getParameterCount() <= 7, true);
        }
    }

    private static void theText() throws IOException {
        String text = Files.readString(SOURCE).replaceAll("//[^\n]*", "").replaceAll("(?s)/\\*.*?\\*/", "");
        Matcher banned = Pattern.compile("\\b(" + BANNED + ")\\b|->|::|\"").matcher(text);
        while (banned.find()) {
            checks.due("a word in the text", banned.group(), "not there");
        }
        Matcher made = Pattern.compile("[^\n]*\\bnew\\b[^\n]*").matcher(text);
        while (made.find()) {
            boolean field = made.group().matches("    private final \\w+\\[\\] \\w+ = new \\w+\\[\\w+\\];");
            checks.due("an array made in a field: " + made.group().trim(), field, true);
        }
        callsInArguments(text);
    }

    /** No call stands inside the arguments of another call. */
    private static void callsInArguments(String text) {
        Matcher call = Pattern.compile("\\b(?!(?:if|for|while|switch|return)\\b)\\w+\\(").matcher(text);
        while (call.find()) {
            int open = 1;
            int end = call.end();
            while (open > 0) {
                char c = text.charAt(end++);
                open += c == '(' ? 1 : c == ')' ? -1 : 0;
            }
            String arguments = text.substring(call.end(), end - 1);
            checks.due("a call in the arguments " + arguments, arguments.matches("(?s).*\\w\\(.*"), false);
        }
    }
}
