import java.net.URL;
import java.net.URLClassLoader;
import java.nio.file.Files;
import java.nio.file.Path;
import java.util.ArrayList;
import java.util.List;
import java.util.regex.Matcher;
import java.util.regex.Pattern;
import java.util.stream.Stream;

/** README.md's examples are one program, each call of which answers the number that stands behind it. */
public final class ReadmeTest {
    private static final Pattern BLOCK = Pattern.compile("(?s)```java\n(.*?)```");
    private static final Pattern ANSWERED = Pattern.compile("(x\\.\\w+\\(.*\\));\\s+// (-?\\d+)(:.*)?");

    public static void main(String[] args) throws Exception {
        String readme = Files.readString(Path.of("README.md"));
        runExamples(readme);
        namesAllTests(readme);
        namesAllRefusals(readme);
        Check.end();
    }

    private static void runExamples(String readme) throws Exception {
        StringBuilder body = new StringBuilder();
        List<String> calls = new ArrayList<>();
        List<Long> dues = new ArrayList<>();
        Matcher blocks = BLOCK.matcher(readme);
        while (blocks.find()) {
            for (String line : blocks.group(1).split("\n")) {
                Matcher m = ANSWERED.matcher(line);
                boolean isAnswered = m.matches();
                if (isAnswered) {
                    calls.add(m.group(1));
                    dues.add(Long.parseLong(m.group(2)));
                } else {
                    Check.isTrue("no answer is left unread: " + line, !line.contains("//"));
                }
                body.append(isAnswered ? "answers.add((long) " + m.group(1) + ");" : line).append('\n');
            }
        }
        Check.isTrue("answers that README.md tells: " + dues.size(), dues.size() >= 40);
        List<Long> answers = run("public class ReadmeExample { public static void run(java.util.List<Long> answers) {\n" + body + "} }\n");
        Check.due("README.md's calls that answered", answers.size(), dues.size());
        for (int i = 0; i < answers.size() && i < dues.size(); i++) {
            Check.due("README.md, answer " + i + ", " + calls.get(i), answers.get(i), dues.get(i));
        }
    }

    /** Compiles a program and runs it: the answers that it took down; none, if it does not compile. */
    private static List<Long> run(String program) throws Exception {
        Path dir = Files.createTempDirectory("readme");
        Path file = dir.resolve("ReadmeExample.java");
        Files.writeString(file, program);
        int compiled = new ProcessBuilder("javac", "-cp", System.getProperty("java.class.path"), "-d", dir.toString(), file.toString())
            .inheritIO().start().waitFor();
        Check.due("README.md's examples compile as one program", compiled, 0);
        List<Long> answers = new ArrayList<>();
        if (compiled == 0) {
            try (URLClassLoader loader = new URLClassLoader(new URL[] {dir.toUri().toURL()}, ReadmeTest.class.getClassLoader())) {
                loader.loadClass("ReadmeExample").getMethod("run", List.class).invoke(null, answers);
            }
        }
        for (String made : List.of("ReadmeExample.java", "ReadmeExample.class")) {
            Files.deleteIfExists(dir.resolve(made));
        }
        Files.delete(dir);
        return answers;
    }

    private static void namesAllTests(String readme) throws Exception {
        try (Stream<Path> files = Files.list(Path.of("src/test/java"))) {
            for (Path file : files.sorted().toList()) {
                String name = file.getFileName().toString().replace(".java", "");
                if (name.endsWith("Test")) {
                    Check.isTrue("README.md names " + name, readme.contains("`" + name + "`"));
                }
            }
        }
        Matcher m = Pattern.compile("\\b([A-Z]\\w*Test)\\b").matcher(readme);
        while (m.find()) {
            Check.isTrue(m.group(1) + " is there", Files.exists(Path.of("src/test/java/" + m.group(1) + ".java")));
        }
        Check.isTrue("README.md tells how to run all tests", readme.contains("bash .ci/run") && Files.exists(Path.of(".ci/run")));
    }

    private static void namesAllRefusals(String readme) throws Exception {
        for (String name : List.of("BAD", "FULL", "STATE", "SPENT", "FINDING")) {
            int value = PaperRound.class.getField(name).getInt(null);
            Check.isTrue("README.md tells " + name, readme.contains("| " + value + " | `" + name + "` |"));
        }
        Check.isTrue("README.md tells NONE", readme.contains("NONE, " + PaperRound.NONE + ","));
        List<String> findings = List.of("1 NOTHING", "2 BEYOND", "3 UNLIKE", "4 NOUGHT", "5 SIZE");
        for (String finding : findings) {
            Check.isTrue("README.md tells " + finding, readme.contains(finding));
        }
    }
}
