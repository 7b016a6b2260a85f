import java.lang.reflect.Field;
import java.lang.reflect.Method;
import java.lang.reflect.Modifier;
import java.util.HashSet;
import java.util.Map;
import java.util.Set;
import java.util.TreeMap;
import java.util.regex.Matcher;
import java.util.regex.Pattern;

/** The rules of LANGUAGE.md, so far as the class and its text show them. */
public final class LanguageTest {
    private static final String TEXT = Document.read("src/main/java/BasicStrings.java")
            .replaceAll("//[^\n]*", "").replaceAll("(?s)/\\*.*?\\*/", "");

    private static final String BANNED = "import|package|float|double|String|Math|Integer|System|Arrays|Object|null"
            + "|throw|throws|try|catch|finally|synchronized|assert|instanceof|protected|enum|interface|record|var"
            + "|Override|equals|hashCode|toString|getClass|clone|wait|notify|notifyAll|finalize";

    // The bounds of a loop are seen best where it counts; the program needs no other loop.
    private static final String COUNTING = "for \\(int (\\w+) = [^;]+; \\1 < [^;]+; \\1\\+\\+\\) \\{";

    private static final Checks checks = new Checks();

    public static void main(String[] args) {
        rule1NoNameTwice();
        rules2And5TypesOfFields();
        rules2And3And6And11Words();
        rule4Arrays();
        rule8Loops();
        Map<String, String> bodies = bodies();
        rules8And10CallsInCalls(bodies);
        rule10Lengths(bodies);
        rule10CallsInArguments();
        checks.end();
    }

    private static void rule1NoNameTwice() {
        Set<String> names = new HashSet<>();
        for (Method method : BasicStrings.class.getDeclaredMethods()) {
            checks.due(method.getName() + " is the only one of its name", names.add(method.getName()), true);
        }
        checks.due("the nested classes", BasicStrings.class.getDeclaredClasses().length, 0);
    }

    private static void rules2And5TypesOfFields() {
        for (Field field : BasicStrings.class.getDeclaredFields()) {
            Class<?> type = field.getType();
            Class<?> plain = type.isArray() ? type.getComponentType() : type;
            checks.due(field.getName() + " is of a plain type", plain.isPrimitive(), true);
            if (Modifier.isStatic(field.getModifiers())) {
                boolean constant = Modifier.isFinal(field.getModifiers()) && (type == int.class || type == long.class);
                checks.due(field.getName() + " is a constant", constant, true);
            }
        }
    }

    private static void rules2And3And6And11Words() {
        Matcher banned = Pattern.compile("\\b(" + BANNED + ")\\b|->|::|\"").matcher(TEXT);
        while (banned.find()) {
            checks.due("a word in the text", banned.group(), "not there");
        }
    }

    private static void rule4Arrays() {
        Matcher made = Pattern.compile("[^\n]*\\bnew\\b[^\n]*").matcher(TEXT);
        while (made.find()) {
            boolean field = made.group().matches("    private final \\w+\\[\\] \\w+ = new \\w+\\[\\w+\\];");
            checks.due("an array made in a field: " + made.group().trim(), field, true);
        }
        for (Method method : BasicStrings.class.getDeclaredMethods()) {
            checks.due(method.getName() + " answers an array", method.getReturnType().isArray(), false);
        }
    }

    private static void rule8Loops() {
        Matcher loop = Pattern.compile("\\b(for|while|do)\\b[^\n]*").matcher(TEXT);
        while (loop.find()) {
            Matcher counting = Pattern.compile(COUNTING).matcher(loop.group());
            boolean counts = counting.matches();
            checks.due("a loop that counts: " + loop.group(), counts, true);
            if (counts) {
                String body = TEXT.substring(loop.end(), closing(TEXT, loop.end(), '{', '}'));
                String set = "(?s).*\\b" + counting.group(1) + "\\b *([-+*/%&|^]?=[^=]|\\+\\+|--).*";
                checks.due("a counter set inside its loop: " + loop.group(), body.matches(set), false);
            }
        }
    }

    /** The lines of each method, by its name. */
    private static Map<String, String> bodies() {
        Map<String, String> bodies = new TreeMap<>();
        Matcher head = Pattern.compile("(?m)^    (public|private) (static )?\\w+ (?<name>\\w+)\\([^)]*\\) \\{")
                .matcher(TEXT);
        while (head.find()) {
            bodies.put(head.group("name"), TEXT.substring(head.end(), closing(TEXT, head.end(), '{', '}')));
        }
        checks.due("the methods in the text", bodies.size(), BasicStrings.class.getDeclaredMethods().length);
        return bodies;
    }

    private static void rules8And10CallsInCalls(Map<String, String> bodies) {
        Map<String, Integer> depths = new TreeMap<>();
        // A method that calls itself, in whatever way, gets deeper each time around.
        for (int round = 0; round <= bodies.size(); round++) {
            for (String name : bodies.keySet()) {
                depths.put(name, 1 + deepest(bodies.get(name), depths));
            }
        }
        for (String name : bodies.keySet()) {
            checks.due(name + " goes at most six calls deep", depths.get(name) <= 6, true);
        }
    }

    private static int deepest(String body, Map<String, Integer> depths) {
        int deepest = 0;
        Matcher called = Pattern.compile("\\b(\\w+)\\(").matcher(body);
        while (called.find()) {
            deepest = Math.max(deepest, depths.getOrDefault(called.group(1), 0));
        }
        return deepest;
    }

    private static void rule10Lengths(Map<String, String> bodies) {
        for (String name : bodies.keySet()) {
            checks.due(name + " is short", bodies.get(name).lines().count() <= 60, true);
        }
        for (Method method : BasicStrings.class.getDeclaredMethods()) {
            checks.due(method.getName() + " has few parameters", method.getParameterCount() <= 7, true);
        }
        int fields = 0;
        for (Field field : BasicStrings.class.getDeclaredFields()) {
            fields += Modifier.isStatic(field.getModifiers()) ? 0 : 1;
        }
        checks.due("there are few fields", fields <= 40, true);
    }

    private static void rule10CallsInArguments() {
        Matcher call = Pattern.compile("\\b(?!(?:if|for|while|switch|return)\\b)\\w+\\(").matcher(TEXT);
        while (call.find()) {
            String arguments = TEXT.substring(call.end(), closing(TEXT, call.end(), '(', ')'));
            checks.due("a call in the arguments " + arguments, arguments.matches("(?s).*\\w\\(.*"), false);
        }
    }

    /** Where the bracket closes that was opened just before this place. */
    private static int closing(String text, int from, char opens, char closes) {
        int open = 1;
        int at = from;
        while (open > 0) {
            char c = text.charAt(at);
            open += c == opens ? 1 : c == closes ? -1 : 0;
            at++;
        }
        return at - 1;
    }
}
