import java.io.IOException;
import java.io.UncheckedIOException;
import java.nio.file.Files;
import java.nio.file.Path;
import java.util.Arrays;
import java.util.List;

/** The sections of the document, each a text that begins with its heading and has its lines as one. */
final class Document {
    private static final String TEXT = read("../shared/DOC.md");
    private static final List<String> SECTIONS = Arrays.stream(TEXT.split("(?m)^## ")).skip(1).map(Document::oneLine)
            .toList();

    private Document() {
    }

    static List<String> sections() {
        return SECTIONS;
    }

    /** The section whose heading is this or begins with it and a colon; nothing if there is none. */
    static String section(String heading) {
        for (String section : SECTIONS) {
            if (section.startsWith(heading + " ") || section.startsWith(heading + ":")) {
                return section;
            }
        }
        return "";
    }

    static String read(String file) {
        try {
            return Files.readString(Path.of(file));
        } catch (IOException e) {
            throw new UncheckedIOException(e);
        }
    }

    static String oneLine(String text) {
        return text.replaceAll("\\s+", " ").trim();
    }
}
