import java.io.IOException;
import java.nio.file.Files;
import java.nio.file.Path;
import java.util.LinkedHashMap;
import java.util.Map;

/** ../shared/DOC.md by its sections. A test says which sentence it holds, and none is to be left over. */
final class Document {
    private static final Path FILE = Path.of("..", "shared", "DOC.md");
    private static final Map<String, String> WHOLE = read();
    private static final Map<String, String> LEFT = new LinkedHashMap<>(WHOLE);

    private Document() {
    }

    /** What is checked from here on holds this sentence; it may be given as several pieces. */
    static void says(String section, String... pieces) {
        Checks.hold(section + ": " + String.join(" .. ", pieces));
        if (WHOLE.isEmpty()) {
            return;
        }
        Checks.holds("the document has no section " + section, WHOLE.containsKey(section));
        for (String piece : pieces) {
            Checks.holds("the document does not say: " + piece, WHOLE.getOrDefault(section, "").contains(piece));
            takeOut(section, piece);
        }
    }

    /** What is left keeps its length, so that a piece can be said again within another one. */
    private static void takeOut(String section, String piece) {
        int begin = WHOLE.getOrDefault(section, "").indexOf(piece);
        if (begin >= 0) {
            String left = LEFT.get(section);
            LEFT.put(section, left.substring(0, begin) + " ".repeat(piece.length())
                    + left.substring(begin + piece.length()));
        }
    }

    static void nothingIsLeft() {
        Checks.hold("");
        for (Map.Entry<String, String> left : LEFT.entrySet()) {
            String words = left.getValue().replaceAll("\\s+", " ");
            Checks.holds("no test says, of " + left.getKey() + ": " + words, !words.matches(".*[A-Za-z0-9].*"));
        }
    }

    /** The sections, but for the face, which FaceTest holds, and what the document does not promise. */
    private static Map<String, String> read() {
        Map<String, String> sections = new LinkedHashMap<>();
        if (!Files.isReadable(FILE)) {
            System.out.println("  the document is not there: its sentences are not looked up");
            return sections;
        }
        for (String section : text().split("(?m)^##+ ")) {
            String[] headAndBody = section.split("\n", 2);
            if (!headAndBody[0].startsWith("#")) {
                sections.put(headAndBody[0].split(":")[0], plain(headAndBody[1]));
            }
        }
        sections.remove("The public face");
        sections.remove("Not promised");
        return sections;
    }

    private static String text() {
        try {
            return Files.readString(FILE);
        } catch (IOException e) {
            throw new IllegalStateException("the document cannot be read", e);
        }
    }

    /** A section in one line, without a call's head, a heading, and what the interface says ahead of calls. */
    private static String plain(String body) {
        return body.replaceAll("(?m)^`[^`]*\\)[^`]*`: ", "").replaceAll("(?m)^Tides, ferries$", "")
                .replaceAll("(?m)^Ahead of the calls .*$", "").replaceAll("\\s+", " ");
    }
}
