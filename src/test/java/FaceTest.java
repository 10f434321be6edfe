import java.lang.reflect.Constructor;
import java.lang.reflect.Field;
import java.lang.reflect.Method;
import java.lang.reflect.Modifier;
import java.nio.file.Files;
import java.nio.file.Path;
import java.util.ArrayList;
import java.util.HashSet;
import java.util.List;
import java.util.Set;
import java.util.regex.Matcher;
import java.util.regex.Pattern;

/** The public face is that of the document's code block, and nothing of the class is seen but it. */
public final class FaceTest {
    public static void main(String[] args) throws Exception {
        String document = Files.readString(Path.of("../shared/DOC.md"));
        String face = document.substring(document.indexOf("public final class PaperRound"));
        face = face.substring(0, face.indexOf("```"));
        Set<String> told = new HashSet<>();
        Set<String> names = new HashSet<>();
        Matcher m = Pattern.compile("public (int|long) (\\w+)\\(([^)]*)\\);").matcher(face);
        while (m.find()) {
            int parameters = m.group(3).isBlank() ? 0 : m.group(3).split(",").length;
            told.add(m.group(1) + " " + m.group(2) + " " + parameters);
            names.add(m.group(2));
        }
        Check.due("calls in the document", told.size(), 39);
        calls(told, names);
        constants();
        classes(names);
        Check.end();
    }

    private static String shown(Method method) {
        boolean justInts = true;
        for (Class<?> type : method.getParameterTypes()) {
            justInts &= type == int.class;
        }
        return method.getReturnType() + " " + method.getName() + " " + (justInts ? method.getParameterCount() : "?");
    }

    private static void calls(Set<String> told, Set<String> names) {
        List<String> seen = new ArrayList<>();
        for (Method method : PaperRound.class.getDeclaredMethods()) {
            if (Modifier.isPublic(method.getModifiers()) && !Modifier.isStatic(method.getModifiers())) {
                seen.add(shown(method));
            } else {
                Check.due("private: " + method, Modifier.isPrivate(method.getModifiers()) ? 1 : 0, 1);
                Check.due("bears no public name: " + method, names.contains(method.getName()) ? 1 : 0, 0);
            }
        }
        Check.due("as many calls as told", seen.size(), told.size());
        Check.due("the calls that are told: " + seen, new HashSet<>(seen).equals(told) ? 1 : 0, 1);
        Constructor<?>[] constructors = PaperRound.class.getDeclaredConstructors();
        Check.due("constructors", constructors.length, 1);
        Check.due("public constructor", Modifier.isPublic(constructors[0].getModifiers()) ? 1 : 0, 1);
        Check.due("its parameters", constructors[0].getParameterCount(), 0);
        int modifiers = PaperRound.class.getModifiers();
        Check.due("public and final", Modifier.isPublic(modifiers) && Modifier.isFinal(modifiers) ? 1 : 0, 1);
    }

    private static void constants() throws Exception {
        String[] names = {"BAD", "FULL", "FINDING", "STATE", "SPENT", "NONE"};
        int[] values = {-1, -2, -3, -4, -6, -9};
        int seen = 0;
        for (Field field : PaperRound.class.getDeclaredFields()) {
            int is = field.getModifiers();
            if (Modifier.isPublic(is)) {
                seen++;
                Check.due("static and final: " + field, Modifier.isStatic(is) && Modifier.isFinal(is) ? 1 : 0, 1);
                Check.due("an int: " + field, field.getType() == int.class ? 1 : 0, 1);
            } else {
                Check.due("private: " + field, Modifier.isPrivate(is) ? 1 : 0, 1);
            }
        }
        Check.due("public constants", seen, names.length);
        for (int i = 0; i < names.length; i++) {
            Check.due(names[i], PaperRound.class.getField(names[i]).getInt(null), values[i]);
        }
    }

    private static void classes(Set<String> names) {
        Class<?>[] inside = PaperRound.class.getDeclaredClasses();
        Check.due("some twelve classes: " + inside.length, inside.length < 13 ? 1 : 0, 1);
        for (Class<?> type : inside) {
            int is = type.getModifiers();
            Check.due("static, not seen: " + type, Modifier.isStatic(is) && !Modifier.isPublic(is) && !Modifier.isProtected(is) ? 1 : 0, 1);
            int fields = 0;
            for (Field field : type.getDeclaredFields()) {
                boolean isStatic = Modifier.isStatic(field.getModifiers());
                fields += isStatic ? 0 : 1;
                Check.due("static is final: " + field, !isStatic || Modifier.isFinal(field.getModifiers()) ? 1 : 0, 1);
            }
            Check.due("some twenty fields: " + type, fields <= 22 ? 1 : 0, 1);
            for (Method method : type.getDeclaredMethods()) {
                boolean isPrivate = Modifier.isPrivate(method.getModifiers());
                Check.due("bears no public name: " + method, isPrivate && names.contains(method.getName()) ? 1 : 0, 0);
                Check.due("at most seven parameters: " + method, method.getParameterCount() <= 7 ? 1 : 0, 1);
            }
        }
    }
}
