import java.lang.reflect.Constructor;
import java.lang.reflect.Field;
import java.lang.reflect.Method;
import java.lang.reflect.Modifier;
import java.nio.file.Files;
import java.nio.file.Path;
import java.util.ArrayList;
import java.util.Arrays;
import java.util.List;
import java.util.Map;
import java.util.Set;
import java.util.TreeMap;
import java.util.TreeSet;
import java.util.regex.Matcher;
import java.util.regex.Pattern;

/** The public face as the document tells it, and what LANGUAGE.md rules out, as far as a look can tell. */
public final class FaceTest {
    private static final Check check = new Check();

    public static void main(String[] args) throws Exception {
        Path project = Path.of(args.length > 0 ? args[0] : ".");
        String document = Files.readString(project.resolve("../shared/DOC.md"));
        String source = Files.readString(project.resolve("src/main/java/GloveRegret.java"));
        constants();
        methods(document);
        othersArePrivate();
        language(source);
        depth(source);
        check.end();
    }

    private static void constants() {
        check.due("BAD", GloveRegret.BAD, -1);
        check.due("NOT", GloveRegret.NOT, -2);
        check.due("FULL", GloveRegret.FULL, -3);
        check.due("STATE", GloveRegret.STATE, -5);
        check.due("VOID", GloveRegret.VOID, -2000000000);
    }

    private static void methods(String document) {
        Set<String> told = new TreeSet<>();
        Matcher lines = Pattern.compile("    public (int|long) (\\w+)\\(([^)]*)\\);").matcher(document);
        while (lines.find()) {
            told.add(lines.group(1) + " " + lines.group(2) + lines.group(3).replaceAll(" \\w+(,|$)", "$1"));
        }
        Set<String> have = new TreeSet<>();
        for (Method method : GloveRegret.class.getDeclaredMethods()) {
            if (Modifier.isPublic(method.getModifiers())) {
                String types = Arrays.toString(method.getParameterTypes()).replaceAll("[\\[\\]]", "");
                have.add(method.getReturnType() + " " + method.getName() + types);
            }
        }
        check.due("how many methods the document tells", told.size(), 41);
        check.due("the methods are " + have + ", told are " + told, have.equals(told) ? 1 : 0, 1);
        Constructor<?>[] constructors = GloveRegret.class.getDeclaredConstructors();
        check.due("one constructor", constructors.length, 1);
        check.due("it is public", Modifier.isPublic(constructors[0].getModifiers()) ? 1 : 0, 1);
        check.due("without parameters", constructors[0].getParameterCount(), 0);
    }

    private static void othersArePrivate() {
        Set<String> face = new TreeSet<>();
        for (Method method : GloveRegret.class.getDeclaredMethods()) {
            if (Modifier.isPublic(method.getModifiers())) {
                face.add(method.getName());
            } else {
                check.due(method + " is private", Modifier.isPrivate(method.getModifiers()) ? 1 : 0, 1);
            }
        }
        Set<String> constants = Set.of("BAD", "NOT", "FULL", "STATE", "VOID");
        for (Field field : GloveRegret.class.getDeclaredFields()) {
            boolean isRight = constants.contains(field.getName())
                ? Modifier.isPublic(field.getModifiers()) : Modifier.isPrivate(field.getModifiers());
            check.due(field + " is as it should be", isRight ? 1 : 0, 1);
        }
        Class<?>[] inside = GloveRegret.class.getDeclaredClasses();
        check.due("some twelve classes at most", inside.length <= 11 ? 1 : 0, 1);
        check.due("the class has some twenty fields at most", objectFields(GloveRegret.class) <= 20 ? 1 : 0, 1);
        for (Class<?> one : inside) {
            check.due(one + " is static", Modifier.isStatic(one.getModifiers()) ? 1 : 0, 1);
            check.due(one + " is not public", Modifier.isPublic(one.getModifiers()) ? 1 : 0, 0);
            check.due(one + " has some twenty fields at most", objectFields(one) <= 20 ? 1 : 0, 1);
            for (Method method : one.getDeclaredMethods()) {
                check.due(method + " bears no name of the face", face.contains(method.getName()) ? 1 : 0, 0);
                check.due(method + " takes seven at most", method.getParameterCount() <= 7 ? 1 : 0, 1);
            }
        }
    }

    private static int objectFields(Class<?> one) {
        int fields = 0;
        for (Field field : one.getDeclaredFields()) {
            fields += Modifier.isStatic(field.getModifiers()) ? 0 : 1;
        }
        return fields;
    }

    private static void language(String source) {
        String code = source.replaceAll("(?s)/\\*.*?\\*/", "").replaceAll("//[^\n]*", "");
        String[] never = {"\\bthrow\\b", "\\btry\\b", "\\bcatch\\b", "\\bsynchronized\\b", "\\bassert\\b", "->", "::",
            "\\bimport\\b", "\\bpackage\\b", "\\bprotected\\b", "Exact\\b", "\\bSystem\\.(?!arraycopy)", "\\bRandom\\b",
            "\\bThread\\b", "\\bString\\b", "\\bvar\\b", "\\bhashCode\\b", "\\btoString\\b", "\\bwhile\\b", "\\bdo\\b"};
        for (String word : never) {
            check.due("not in the source: " + word, Pattern.compile(word).matcher(code).find() ? 1 : 0, 0);
        }
        for (int i = 0; i < source.length(); i++) {
            if (source.charAt(i) > 126) {
                check.due("a sign above 126 at " + i, 1, 0);
            }
        }
    }

    /** Methods by name; of like names in several classes the bodies are taken together, so no depth is missed. */
    private static void depth(String source) {
        Map<String, String> bodies = new TreeMap<>();
        String method = "(?m)^( {4}| {8})(?! )[\\w\\[\\] ]*\\b(\\w+)\\([^;{]*\\) \\{\n((?s).*?)\n\\1}";
        Matcher methods = Pattern.compile(method).matcher(source);
        while (methods.find()) {
            check.due(methods.group(2) + " is short", methods.group(3).split("\n").length <= 58 ? 1 : 0, 1);
            bodies.merge(methods.group(2), methods.group(3), String::concat);
        }
        for (Method declared : GloveRegret.class.getDeclaredMethods()) {
            check.due(declared + " is found", bodies.containsKey(declared.getName()) ? 1 : 0, 1);
        }
        for (Class<?> one : GloveRegret.class.getDeclaredClasses()) {
            for (Method declared : one.getDeclaredMethods()) {
                check.due(declared + " is found", bodies.containsKey(declared.getName()) ? 1 : 0, 1);
            }
        }
        for (String name : bodies.keySet()) {
            int deep = deepest(name, bodies, new ArrayList<>());
            check.due(name + " goes " + deep + " deep, eight at most", deep <= 8 ? 1 : 0, 1);
        }
    }

    /** A method that is open already is a recursion, which has a rule of its own. */
    private static int deepest(String name, Map<String, String> bodies, List<String> open) {
        open.add(name);
        int deepest = 0;
        Set<String> called = new TreeSet<>();
        Matcher calls = Pattern.compile("(?<!new )\\b(\\w+)\\(").matcher(bodies.get(name));
        while (calls.find()) {
            called.add(calls.group(1));
        }
        for (String next : called) {
            if (bodies.containsKey(next) && !open.contains(next)) {
                deepest = Math.max(deepest, deepest(next, bodies, open));
            }
        }
        open.remove(name);
        return 1 + deepest;
    }
}
