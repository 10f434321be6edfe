import java.io.IOException;
import java.nio.file.Files;
import java.nio.file.Path;

/** The document's own words, part by part, so that a test can name the sentence that it holds the program against. */
final class Document {
    static final int TERMS = 5, PROMISES = 40;

    private static String whole;

    private Document() {
    }

    /** Of the Terms: 0 ANSWERS, 1 rows, texts, houses, 2 plans, 3 rules, 4 the best of all. */
    static String terms(int part) {
        String head = part == 0 ? "======== ANSWERS." : "======== " + part + " ";
        return plain(between(head, part + 1 < TERMS ? "======== " + (part + 1) + " " : "Ahead of the calls"));
    }

    static String promise(int n) {
        String told = between("## Promise " + n + ": ", n < PROMISES ? "## Promise " + (n + 1) + ": " : "## Not promised");
        return plain(told.substring(told.indexOf("`: ") + 3));
    }

    private static String between(String head, String next) {
        String all = whole();
        int from = all.indexOf(head);
        int to = all.indexOf(next, from + head.length());
        if (from < 0 || to < 0) {
            throw new IllegalStateException("the document has no " + head + " .. " + next);
        }
        return all.substring(from + head.length(), to);
    }

    private static String plain(String told) {
        return told.replace("```text", " ").replace("```", " ").replaceAll("\\s+", " ").strip();
    }

    private static String whole() {
        if (whole == null) {
            try {
                whole = Files.readString(Path.of("../shared/DOC.md"));
            } catch (IOException e) {
                throw new IllegalStateException(e);
            }
        }
        return whole;
    }
}
