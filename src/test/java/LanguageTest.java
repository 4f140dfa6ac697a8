import java.lang.reflect.Constructor;
import java.lang.reflect.Field;
import java.lang.reflect.Method;
import java.lang.reflect.Modifier;
import java.nio.file.Files;
import java.nio.file.Path;
import java.util.ArrayList;
import java.util.HashSet;
import java.util.List;
import java.util.Set;
import java.util.regex.Matcher;
import java.util.regex.Pattern;

/** What of LANGUAGE.md can be seen by a machine; the first argument is the source's place. */
final class LanguageTest {
    private static final String[] OUTSIDE = {"->", "::", "\\btry\\b", "\\bcatch\\b", "\\bfinally\\b", "\\bassert\\b",
        "\\bsynchronized\\b", "\\bvar\\b", "\\binstanceof\\b", "\\bdouble\\b", "\\bfloat\\b", "java\\.", "System\\.",
        "\\bArrays\\b", "\\.equals\\(", "hashCode", "toString", "static \\{"};

    private LanguageTest() {
    }

    public static void main(String[] args) throws Exception {
        Checks checks = new Checks();
        String source = Files.readString(Path.of(args.length > 0 ? args[0] : "src/main/java/WatchLots.java"));
        words(checks, source);
        face(checks);
        List<Class<?>> all = new ArrayList<>(List.of(WatchLots.class.getDeclaredClasses()));
        all.add(WatchLots.class);
        checks.due("classes, some twelve", true, all.size() <= 12);
        for (Class<?> c : all) {
            sizes(checks, c);
        }
        checks.end();
    }

    private static void words(Checks checks, String source) {
        String code = source.replaceFirst("import java\\.util\\.NoSuchElementException;", "")
                .replaceAll("(?s)/\\*.*?\\*/", "").replaceAll("//.*", "");
        for (String word : OUTSIDE) {
            Matcher m = Pattern.compile(word).matcher(code);
            checks.due(word + " in the code", false, m.find());
        }
        checks.due("bytes from 1 to 127", true, source.chars().allMatch(c -> c > 0 && c < 128));
        int longest = 0;
        int from = 0;
        String[] lines = source.split("\n");
        for (int i = 0; i < lines.length; i++) {
            if (lines[i].matches(" {4,8}[A-Za-z].*\\) .*\\{") || lines[i].matches(" {4,8}[A-Z]\\w*\\(.*\\{")) {
                from = i;
            } else if (lines[i].matches(" {4,8}\\}")) {
                longest = Math.max(longest, i - from + 1);
                from = i;
            }
        }
        checks.due("a method's lines " + longest, true, longest <= 60);
    }

    private static void face(Checks checks) {
        checks.due("public final", true, Modifier.isPublic(WatchLots.class.getModifiers())
                && Modifier.isFinal(WatchLots.class.getModifiers()));
        Set<String> shown = new HashSet<>();
        for (Method m : WatchLots.class.getDeclaredMethods()) {
            if (Modifier.isPublic(m.getModifiers())) {
                shown.add(m.getName());
            }
        }
        checks.due("public methods", 41, shown.size());
        for (Method m : WatchLots.class.getDeclaredMethods()) {
            int how = m.getModifiers();
            checks.due(m + " public or private", true,
                    Modifier.isPublic(how) || Modifier.isPrivate(how) || m.isSynthetic());
        }
        for (Class<?> c : WatchLots.class.getDeclaredClasses()) {
            checks.due(c + " static", true,
                    Modifier.isStatic(c.getModifiers()) && !Modifier.isPublic(c.getModifiers()));
            for (Method m : c.getDeclaredMethods()) {
                checks.due(m + " has a name of its own", false, shown.contains(m.getName()));
            }
        }
        for (Field f : WatchLots.class.getDeclaredFields()) {
            checks.due(f + " private", !f.getName().equals("NONE"), Modifier.isPrivate(f.getModifiers()));
        }
    }

    private static void sizes(Checks checks, Class<?> c) {
        int fields = 0;
        for (Field f : c.getDeclaredFields()) {
            if (Modifier.isStatic(f.getModifiers())) {
                checks.due(f + " final", true, Modifier.isFinal(f.getModifiers()));
            } else {
                fields++;
            }
        }
        checks.due(c + " fields", true, fields <= 20);
        for (Method m : c.getDeclaredMethods()) {
            checks.due(m + " parameters", true, m.getParameterCount() <= 7);
        }
        for (Constructor<?> m : c.getDeclaredConstructors()) {
            checks.due(m + " parameters", true, m.getParameterCount() <= 7);
        }
    }
}
