import java.util.regex.Matcher;
import java.util.regex.Pattern;

/** README.md says what the document says, in its words, and its example answers as it tells. */
public final class ReadmeTest {
    private static final String README = Document.read("README.md");
    private static final String ONE_LINE = Document.oneLine(README.replaceAll("(?m)^- ", ""));

    private static final Checks checks = new Checks();

    public static void main(String[] args) {
        theSection("What it is");
        theSection("Terms");
        theSection("Not promised");
        int promises = 0;
        for (String section : Document.sections()) {
            if (section.startsWith("Promise ")) {
                promises++;
                theCall(section);
            }
        }
        checks.due("the calls in the document", promises, 22);
        checks.due("the rows of calls", README.split("\n\\| `").length - 1, promises);
        theExample();
        checks.end();
    }

    private static void theSection(String heading) {
        String text = Document.section(heading).substring(heading.length() + 1);
        for (String sentence : text.split("(?<=\\.) |(?<=The constants:) ")) {
            checks.due("README.md says \"" + sentence + "\"", ONE_LINE.contains(sentence), true);
        }
    }

    /** The row of the call has all that its promise says, and nothing else. */
    private static void theCall(String section) {
        String signature = section.replaceAll(".*?(`[^`]*`): .*", "$1");
        String left = section.substring(section.indexOf(signature) + signature.length() + 1);
        int row = README.indexOf("\n| " + signature + " |");
        checks.due("a row for " + signature, row >= 0, true);
        String[] cells = README.substring(row + 1, README.indexOf('\n', row + 1)).split("\\|");
        for (int k = 2; k < cells.length; k++) {
            for (String words : cells[k].trim().split("<br>")) {
                String part = "(?<!\\w)" + Pattern.quote(words) + "(?!\\w)";
                boolean said = Pattern.compile(part).matcher(left).find();
                checks.due("the promise of " + signature + " says \"" + words + "\"", said, true);
                left = left.replaceFirst(part, "");
            }
        }
        // What the heads of the columns say.
        String rest = left.replaceAll("Tested in this order:|[Oo]therwise|answers|[.;,]", "").trim();
        checks.due("what the row of " + signature + " leaves out", rest, "");
    }

    private static void theExample() {
        BasicStrings x = new BasicStrings();
        Matcher line = Pattern.compile("(?m)^x\\.(\\w+)\\((.*)\\); +// (-?\\w+)").matcher(README);
        int lines = 0;
        while (line.find()) {
            lines++;
            String[] arguments = line.group(2).split(", ");
            int a = number(arguments[0]);
            int b = arguments.length > 1 ? number(arguments[1]) : 0;
            int answer = Call.of(line.group(1)).program().answer(x, a, b);
            checks.due("the example's " + line.group(), answer, number(line.group(3)));
        }
        checks.due("lines of the example", lines, README.split("\nx\\.").length - 1);
    }

    /** The number that a text of the example stands for: a character, the name of a code, or digits. */
    private static int number(String text) {
        switch (text) {
            case "": return 0;
            case "BAD_ARG": return Checks.BAD_ARG;
            case "FULL": return Checks.FULL;
            case "TOO_FEW": return Checks.TOO_FEW;
            case "LONG": return Checks.LONG;
            default: return text.startsWith("'") ? text.charAt(1) : Integer.parseInt(text);
        }
    }
}
