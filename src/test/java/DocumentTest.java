import java.util.Set;

/** Every sentence of the document is quoted by a test that stands for it. */
public final class DocumentTest {
    private static final Set<String> HEADINGS = Set.of("What it is", "The public face ```java", "Terms");

    private static final Checks checks = new Checks();

    public static void main(String[] args) throws Exception {
        PromisesTest.sentences();
        EdgesOfTermsTest.sentences();
        EdgesOfPuttingTest.sentences();
        EdgesOfTakingTest.sentences();
        EdgesOfVariablesTest.sentences();
        EdgesOfAskingTest.sentences();
        FaceTest.sentences();
        for (String section : Document.sections()) {
            // It only says what is free, so no answer can be wrong by it.
            if (!section.startsWith("Not promised ")) {
                quoted(section);
            }
        }
        checks.end();
    }

    private static void quoted(String section) {
        StringBuilder left = new StringBuilder(section);
        for (String[] quote : Checks.quotes()) {
            if (quote[0].equals(section)) {
                strikeOut(left, section, quote[1]);
            }
        }
        for (String words : left.toString().split("#+")) {
            if (words.matches(".*\\w.*") && !HEADINGS.contains(words.trim())) {
                String place = section.substring(0, 10) + ".. \"" + words.trim() + "\"";
                checks.due("the tests that quote " + place, 0, "one at least");
            }
        }
    }

    /** Puts signs over the words wherever they stand in the section, also where others overlap them. */
    private static void strikeOut(StringBuilder left, String section, String words) {
        for (int at = section.indexOf(words); at >= 0; at = section.indexOf(words, at + 1)) {
            left.replace(at, at + words.length(), "#".repeat(words.length()));
        }
    }
}
