import java.nio.file.Files;
import java.nio.file.Path;
import java.util.List;
import java.util.regex.Matcher;
import java.util.regex.Pattern;
import java.util.stream.Stream;

/** Each sentence of the Terms and of the promises is named by a test that is held against it. */
public final class DocumentTest {
    private static final Pattern NAMED = Pattern.compile("Check\\.(says|terms)\\((\\d+), \"((?:[^\"\\\\]|\\\\.)*)\"\\)");

    public static void main(String[] args) throws Exception {
        StringBuilder tests = new StringBuilder();
        try (Stream<Path> files = Files.list(Path.of("src/test/java"))) {
            for (Path file : files.sorted().toList()) {
                tests.append(Files.readString(file));
            }
        }
        for (int part = 0; part < Document.TERMS; part++) {
            named("terms", part, Document.terms(part), tests.toString());
        }
        for (int n = 1; n <= Document.PROMISES; n++) {
            named("says", n, Document.promise(n), tests.toString());
        }
        Check.end();
    }

    private static void named(String kind, int n, String words, String tests) {
        StringBuilder left = new StringBuilder(words);
        Matcher m = NAMED.matcher(tests);
        while (m.find()) {
            int at = m.group(1).equals(kind) && Integer.parseInt(m.group(2)) == n ? words.indexOf(m.group(3)) : -1;
            for (int i = at; at >= 0 && i < at + m.group(3).length(); i++) {
                left.setCharAt(i, ' ');
            }
        }
        for (String piece : List.of(left.toString().split(" {2,}"))) {
            Check.isTrue(kind + " " + n + ", not named by a test: '" + piece.strip() + "'", piece.replaceAll("[\\s.,;:()]", "").isEmpty());
        }
    }
}
