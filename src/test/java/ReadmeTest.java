import java.lang.reflect.InvocationTargetException;
import java.lang.reflect.Method;
import java.lang.reflect.Modifier;
import java.nio.file.Files;
import java.nio.file.Path;
import java.util.Map;
import java.util.Set;
import java.util.TreeSet;
import java.util.regex.Matcher;
import java.util.regex.Pattern;

/** The calls of README.md answer what stands behind them there, and none of the face is left out. */
public final class ReadmeTest {
    private static final Check check = new Check();
    private static final Pattern BLOCK = Pattern.compile("(?s)```java\n(.*?)```");
    private static final Pattern CALL = Pattern.compile("x\\.(\\w+)\\((.*?)\\); +// (-?\\w+)(:.*)?");
    private static final Map<String, Long> NAMES = Map.of("BAD", -1L, "NOT", -2L, "FULL", -3L, "STATE", -5L);

    public static void main(String[] args) throws Exception {
        Path project = Path.of(args.length > 0 ? args[0] : ".");
        Set<String> shown = new TreeSet<>();
        GloveRegret x = null;
        Matcher blocks = BLOCK.matcher(Files.readString(project.resolve("README.md")));
        while (blocks.find()) {
            for (String line : blocks.group(1).split("\n")) {
                Matcher call = CALL.matcher(line);
                if (line.equals("GloveRegret x = new GloveRegret();")) {
                    x = new GloveRegret();
                } else if (x != null && call.matches()) {
                    shown.add(call.group(1));
                    check.due(line, answer(x, call.group(1), call.group(2).split(", ")), due(call.group(3)));
                } else {
                    check.due("no call: " + line, 1, 0);
                }
            }
        }
        Set<String> left = new TreeSet<>(faceNames());
        left.removeAll(shown);
        check.due("not shown: " + left, left.size(), 0);
        check.end();
    }

    private static long due(String word) {
        return NAMES.containsKey(word) ? NAMES.get(word) : Long.parseLong(word);
    }

    private static long answer(GloveRegret x, String name, String[] words) throws Exception {
        Method method = methodOf(name);
        Object[] told = new Object[method.getParameterCount()];
        for (int i = 0; i < told.length; i++) {
            int v = words[i].startsWith("'") ? words[i].charAt(1) : Integer.parseInt(words[i]);
            told[i] = method.getParameterTypes()[i] == long.class ? (Object) (long) v : (Object) v;
        }
        try {
            return ((Number) method.invoke(x, told)).longValue();
        } catch (InvocationTargetException e) {
            check.due(name + " threw " + e.getCause(), 1, 0);
            return 0;
        }
    }

    private static Method methodOf(String name) {
        for (Method method : GloveRegret.class.getDeclaredMethods()) {
            if (method.getName().equals(name) && Modifier.isPublic(method.getModifiers())) {
                return method;
            }
        }
        throw new IllegalArgumentException("README.md shows a call that there is not: " + name);
    }

    private static Set<String> faceNames() {
        Set<String> names = new TreeSet<>();
        for (Method method : GloveRegret.class.getDeclaredMethods()) {
            if (Modifier.isPublic(method.getModifiers())) {
                names.add(method.getName());
            }
        }
        return names;
    }
}
