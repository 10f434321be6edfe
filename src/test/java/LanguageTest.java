import java.nio.file.Files;
import java.nio.file.Path;
import java.util.ArrayDeque;
import java.util.Deque;
import java.util.List;
import java.util.Set;
import java.util.regex.Matcher;
import java.util.regex.Pattern;

/** What can be seen of the rules of LANGUAGE.md in the program's text; FaceTest sees more of rules 1, 2, 5 and 11. */
public final class LanguageTest {
    private static String code;

    public static void main(String[] args) throws Exception {
        String source = Files.readString(Path.of("src/main/java/PaperRound.java"));
        code = source.replaceAll("(?s)/\\*.*?\\*/", " ").replaceAll("//[^\n]*", " ").replaceAll("'(\\\\.|[^\\\\])'", "' '");
        Check.isTrue("rule 4: constants' signs are 1 to 127", code.chars().allMatch(c -> c >= 1 && c <= 127));
        words();
        library();
        classes();
        loops();
        Methods.look(code);
        Check.end();
    }

    private static void none(String what, String pattern) {
        Matcher m = Pattern.compile(pattern).matcher(code);
        int found = 0;
        while (m.find()) {
            found++;
            System.out.println("found: " + m.group().strip());
        }
        Check.due(what, found, 0);
    }

    private static void words() {
        for (String word : List.of("throw", "throws", "try", "catch", "finally", "synchronized", "assert")) {
            none("rule 6: the word " + word, "\\b" + word + "\\b");
        }
        for (String word : List.of("package", "protected", "transient", "volatile", "native", "strictfp", "hashCode", "Object",
                "Class", "Thread", "Random", "Runtime", "Process", "File", "Path", "Socket", "Scanner", "Map", "HashMap", "Set",
                "HashSet", "Stream", "IntStream", "Optional", "Collections", "Exception", "RuntimeException", "Throwable",
                "currentTimeMillis", "nanoTime", "getenv", "getProperty", "identityHashCode", "exit")) {
            none("rules 1, 4, 6, 13: the word " + word, "\\b" + word + "\\b");
        }
        none("rule 2: lambdas", "(?<!\\bdefault )(?<!\\bdefault)->(?<!case [^;{}:]{0,80}->)");
        none("rule 2: method references", "::");
        none("rule 10: texts joined by +", "\"\\s*\\+|\\+\\s*\"");
        none("rule 6: functions whose name ends in Exact", "\\b\\w+Exact\\b");
    }

    private static void library() {
        Matcher imports = Pattern.compile("\\bimport\\s+([\\w.*]+)").matcher(code);
        while (imports.find()) {
            Check.isTrue("rule 4: known import " + imports.group(1),
                Set.of("java.util.ArrayList", "java.util.List", "java.util.Arrays", "java.util.Iterator", "java.util.*").contains(imports.group(1)));
        }
        Set<String> known = Set.of("System.arraycopy", "Arrays.copyOf", "Arrays.copyOfRange", "Arrays.fill", "List.of");
        Matcher m = Pattern.compile("\\b(System|Arrays|List|String)\\.\\w+").matcher(code);
        while (m.find()) {
            Check.isTrue("rule 4: known " + m.group(), known.contains(m.group()));
        }
    }

    private static void classes() {
        none("rule 5: static initialisers", "\\bstatic\\s*\\{");
        none("rule 5: static fields that are not final",
            "\\bstatic\\s+(?!final\\b|class\\b|enum\\b|record\\b|interface\\b|abstract\\b)(?:private\\s+)?[\\w<>\\[\\]]+\\s+\\w+\\s*(?:=|;)");
        none("rule 2: classes inside that are not static", "(?<!static )(?<!static final )(?<!static abstract )(?<!public final )\\bclass \\w+");
    }

    private static void loops() {
        none("rule 9: loops without a condition", "while\\s*\\(\\s*true\\s*\\)|for\\s*\\([^;()]*;\\s*;");
    }

    /** Finds methods by their braces. */
    private static final class Methods {
        private static final String TYPE = "type", METHOD = "method", OTHER = "other";

        static void look(String code) {
            Deque<String> open = new ArrayDeque<>();
            Deque<Integer> lines = new ArrayDeque<>();
            int line = 1;
            int methods = 0;
            int types = 0;
            int head = 0;
            for (int i = 0; i < code.length(); i++) {
                char c = code.charAt(i);
                if (c == '\n') {
                    line++;
                } else if (c == '{') {
                    String kind = kindOf(code.substring(head, i), open.peek());
                    types += kind.equals(TYPE) ? 1 : 0;
                    open.push(kind);
                    lines.push(line);
                } else if (c == '}') {
                    int from = lines.pop();
                    if (open.pop().equals(METHOD)) {
                        methods++;
                        Check.isTrue("rule 11: some sixty lines a method, lines " + from + " to " + line, line - from < 66);
                    }
                }
                head = c == '{' || c == '}' || c == ';' ? i + 1 : head;
            }
            Check.isTrue("all braces are closed", open.isEmpty());
            Check.isTrue("methods found: " + methods, methods >= 40);
            Check.isTrue("rule 11: some twelve classes: " + types, types <= 13);
        }

        private static String kindOf(String head, String in) {
            if (Pattern.compile("\\b(class|interface|enum|record)\\b").matcher(head).find()) {
                return TYPE;
            }
            return TYPE.equals(in) && head.contains("(") ? METHOD : OTHER;
        }
    }
}
