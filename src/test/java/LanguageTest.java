import java.nio.file.Files;
import java.nio.file.Path;
import java.util.List;
import java.util.Set;
import java.util.regex.Matcher;
import java.util.regex.Pattern;

/** What can be seen of the rules of LANGUAGE.md in the program's text. */
public final class LanguageTest {
    private static String code;

    public static void main(String[] args) throws Exception {
        String source = Files.readString(Path.of("src/main/java/PaperRound.java"));
        Check.due("signs are 1 to 127", source.chars().filter(c -> c < 1 || c > 127).count(), 0);
        code = source.replaceAll("(?s)/\\*.*?\\*/", " ").replaceAll("//[^\n]*", " ").replaceAll("'.'", "' '");
        words();
        library();
        objects();
        loops();
        methods();
        Check.end();
    }

    private static int found(String pattern) {
        int found = 0;
        Matcher m = Pattern.compile(pattern).matcher(code);
        while (m.find()) {
            found++;
            System.out.println("found: " + m.group());
        }
        return found;
    }

    private static void words() {
        for (String word : List.of("throw", "throws", "try", "catch", "finally", "synchronized", "assert", "package",
                "import", "instanceof", "protected", "transient", "volatile", "native", "strictfp", "goto", "var",
                "equals", "hashCode", "toString", "Object", "Integer", "float", "double")) {
            Check.due("the word " + word, found("\\b" + word + "\\b"), 0);
        }
        Check.due("lambdas, method references", found("->|::"), 0);
        Check.due("texts", found("\""), 0);
        Check.due("static initialisers", found("\\bstatic\\s*\\{"), 0);
        Check.due("static fields that are not final", found("\\bstatic (?!final)(?!.*\\().*;"), 0);
        Check.due("nested classes that are not static", found("(?m)^ +(?!private static)\\S.*\\bclass "), 0);
    }

    private static void library() {
        Set<String> known = Set.of("System.arraycopy", "Math.max", "Math.min");
        Matcher m = Pattern.compile("\\b(System|Math|Integer|Long|Arrays|String|List)\\.\\w+").matcher(code);
        while (m.find()) {
            Check.due("known to the library rule: " + m.group(), known.contains(m.group()) ? 1 : 0, 1);
        }
    }

    /** Objects are made as fields or in a constructor alone, so that no call makes any. */
    private static void objects() {
        for (String line : code.split("\n")) {
            if (line.contains("new ")) {
                boolean inConstructor = line.matches(" +(rows|texts|houseText|plan|trialPlan|rules|rules\\[k\\]|trialRule|round"
                    + "|search|findings|house|draft|places|sizes) = new .*;");
                boolean isField = line.matches(" {8}(private )?final (int|long|boolean)[\\[\\]]+ \\w+ = new .*;");
                Check.due("made ahead of all calls: " + line.strip(), inConstructor || isField ? 1 : 0, 1);
            }
        }
    }

    private static void loops() {
        Check.due("loops without a condition", found("while \\(true\\)|for \\([^;]*;\\s*;"), 0);
        Check.due("do loops", found("\\bdo \\{"), 0);
    }

    private static void methods() {
        String[] lines = code.split("\n");
        Pattern head = Pattern.compile("^( {4}| {8})(public |private |static |final )*[\\w\\[\\]]+ ?\\w*\\(([^)]*)\\) \\{$");
        int seen = 0;
        for (int i = 0; i < lines.length; i++) {
            Matcher m = head.matcher(lines[i]);
            if (m.find()) {
                seen++;
                int end = i;
                while (!lines[end].equals(m.group(1) + "}")) {
                    end++;
                }
                Check.due("at most sixty lines: " + lines[i].strip(), end - i <= 60 ? 1 : 0, 1);
                Check.due("at most seven parameters: " + lines[i].strip(), m.group(3).split(",").length <= 7 ? 1 : 0, 1);
            }
        }
        Check.due("methods seen: " + seen, seen > 100 ? 1 : 0, 1);
    }
}
