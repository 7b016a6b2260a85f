import java.lang.reflect.Constructor;
import java.lang.reflect.Field;
import java.lang.reflect.Method;
import java.lang.reflect.Modifier;
import java.util.Arrays;
import java.util.List;
import java.util.Set;
import java.util.TreeSet;

/** The public face of the document: all of it, with its names and types, and nothing beside it. */
public final class FaceTest {
    private static final int CONSTANTS = 4;
    private static final List<String> FACE = List.of(
            "public static final int BAD_ARG = -1;",
            "public static final int FULL = -2;",
            "public static final int TOO_FEW = -3;",
            "public static final int LONG = -5;",
            "public BasicStrings();",
            "public int key(int c);",
            "public void newLine();",
            "public int literal();",
            "public int push(int v);",
            "public int let(int v);",
            "public int drop();",
            "public int join();",
            "public int left(int n);",
            "public int right(int n);",
            "public int mid(int i, int n);",
            "public int repeat(int n, int c);",
            "public int compare();",
            "public int find(int u, int v);",
            "public int setMid(int v, int i);",
            "public int swap(int u, int v);",
            "public int length(int v);",
            "public int at(int v, int i);",
            "public int pile();",
            "public int topLength();",
            "public int topAt(int i);",
            "public int used();");

    private static final Checks checks = new Checks();

    public static void main(String[] args) throws Exception {
        sentences();
        checks.end();
    }

    static void sentences() throws IllegalAccessException {
        theClass();
        theMembers();
        theSignatures();
    }

    private static void theClass() {
        checks.sentence("The public face", "public final class BasicStrings {");
        Class<?> c = BasicStrings.class;
        checks.due("the class's name", c.getName(), "BasicStrings");
        checks.due("the class's modifiers", Modifier.toString(c.getModifiers()), "public final");
        checks.due("the class above it", c.getSuperclass(), Object.class);
        checks.due("the interfaces", c.getInterfaces().length, 0);
    }

    private static void theMembers() throws IllegalAccessException {
        String source = Document.oneLine(Document.read("src/main/java/BasicStrings.java"));
        Set<String> seen = seen();
        for (String member : FACE) {
            checks.sentence("The public face", member);
            checks.due("the member", seen.remove(withoutNames(member)), true);
            // The class file doesn't have the names of the parameters.
            String declared = member.contains("(") ? member.replace(";", " {") : member;
            checks.due("the text of the program", source.contains(declared), true);
        }
        checks.sentence("The public face", FACE.get(FACE.size() - 1) + " }");
        checks.due("the members beside these", seen.toString(), "[]");
    }

    private static void theSignatures() throws IllegalAccessException {
        Set<String> seen = seen();
        for (int promise = 1; promise <= FACE.size() - CONSTANTS; promise++) {
            String member = FACE.get(CONSTANTS + promise - 1);
            String signature = member.substring("public ".length(), member.length() - 1);
            String name = signature.replaceAll("\\(.*", "").replaceAll(".* ", "");
            String heading = "Promise " + promise + ": " + (promise == 1 ? "A new object" : name);
            checks.sentence("Promise " + promise, heading + " `" + signature + "`:");
            checks.due("the member", seen.contains(withoutNames(member)), true);
        }
    }

    /** All members that are not private, written as those of the face, but without the parameters' names. */
    private static Set<String> seen() throws IllegalAccessException {
        Class<?> c = BasicStrings.class;
        Set<String> seen = new TreeSet<>();
        for (Field field : c.getDeclaredFields()) {
            if (!Modifier.isPrivate(field.getModifiers())) {
                Object value = Modifier.isStatic(field.getModifiers()) ? field.get(null) : "?";
                seen.add(modifiers(field.getModifiers()) + field.getType() + " " + field.getName()
                        + " = " + value + ";");
            }
        }
        for (Constructor<?> made : c.getDeclaredConstructors()) {
            seen.add(modifiers(made.getModifiers()) + c.getName() + parameters(made.getParameterTypes()));
        }
        for (Method method : c.getDeclaredMethods()) {
            if (!Modifier.isPrivate(method.getModifiers())) {
                seen.add(modifiers(method.getModifiers()) + method.getReturnType() + " " + method.getName()
                        + parameters(method.getParameterTypes()));
            }
        }
        for (Class<?> nested : c.getDeclaredClasses()) {
            seen.add(nested.getName());
        }
        return seen;
    }

    private static String withoutNames(String member) {
        return member.replaceAll("int \\w+(?=[,)])", "int");
    }

    private static String modifiers(int bits) {
        String text = Modifier.toString(bits);
        return text.isEmpty() ? "" : text + " ";
    }

    private static String parameters(Class<?>[] types) {
        String text = Arrays.toString(types);
        return "(" + text.substring(1, text.length() - 1) + ");";
    }
}
