import java.io.IOException;
import java.nio.file.Files;
import java.nio.file.Path;
import java.util.ArrayList;
import java.util.List;

/** The document's text, cut into its promises, its terms, and the clauses of both. */
final class Document {
    static final int PROMISES = 26;

    private static final String HEADING = "## Promise ";

    private final String text;

    Document() {
        try {
            text = Files.readString(Path.of("../shared/DOC.md"));
        } catch (IOException missing) {
            throw new IllegalStateException("../shared/DOC.md cannot be read", missing);
        }
    }

    private static String onOneLine(String part) {
        return part.replaceAll("\\s+", " ").strip();
    }

    private String between(String start, String end) {
        int from = text.indexOf(start);
        int to = text.indexOf(end, Math.max(from, 0));
        if (from < 0 || to < 0) throw new IllegalStateException("the document has no part from " + start + " to " + end);
        return text.substring(from, to);
    }

    private String promise(int number) {
        String end = number < PROMISES ? HEADING + (number + 1) + ":" : "## Not promised";
        return between(HEADING + number + ":", end);
    }

    private String terms() {
        return between("## Terms", "The constants:");
    }

    /** The lines of the public face, without those around them. */
    List<String> face() {
        List<String> face = new ArrayList<>();
        for (String line : between("public final class LayeredCharters {", "\n}\n").split("\n")) {
            if (line.startsWith("    ")) face.add(onOneLine(line));
        }
        return face;
    }

    boolean says(String quote) {
        return onOneLine(text).contains(quote);
    }

    List<String> clausesOf(int promise) {
        return clauses(promise(promise).replaceAll("## .*", "").replaceAll("(?m)^`[^`]*`:", ""));
    }

    List<String> clausesOfTerms() {
        return clauses(terms().replaceAll("##+ .*", "").replace("CONVENTIONS. ", ""));
    }

    private static List<String> clauses(String part) {
        List<String> clauses = new ArrayList<>();
        for (String paragraph : part.split("\n\n|\n(?=- )")) {
            String line = onOneLine(paragraph);
            if (line.startsWith("- ")) {
                clauses.add(line.substring(2));
                continue;
            }
            for (String clause : line.split("(?<=[.;:])\\s+")) {
                String bare = clause.replaceAll("[.;:]$", "");
                if (!bare.isEmpty()) clauses.add(bare);
            }
        }
        return clauses;
    }
}
