import java.io.IOException;
import java.lang.reflect.Array;
import java.lang.reflect.Field;
import java.lang.reflect.Method;
import java.lang.reflect.Modifier;
import java.nio.file.Files;
import java.nio.file.Path;
import java.util.ArrayDeque;
import java.util.Collections;
import java.util.Deque;
import java.util.IdentityHashMap;
import java.util.Map;
import java.util.Set;
import java.util.TreeMap;
import java.util.TreeSet;
import java.util.regex.Matcher;
import java.util.regex.Pattern;

/** What of LANGUAGE.md can be seen without running the program; started in the project's directory. */
public final class LanguageTest {
    private static final String FACE = "back,cell,clear,count,cuts,farthest,fit,forget,has,home,keep,mends,"
            + "modes,moves,note,parse,parsed,part,plays,reach,sees,shares,type,undo,unseen,way";

    public static void main(String[] args) throws IOException, ReflectiveOperationException {
        String source = Files.readString(Path.of("src/main/java/ModeCells.java"));
        String code = source.replaceAll("(?s)/\\*.*?\\*/", " ").replaceAll("//[^\n]*", " ");
        words(code);
        methodLengths(code);
        members();
        callDepths(bodies(code));
        newOnlyInConstructors(bodies(code));
        room();
        Check.report();
    }

    private static void absent(String code, String pattern) {
        Matcher m = Pattern.compile(pattern).matcher(code);
        boolean found = m.find();
        Check.due("places of " + pattern + (found ? ": " + m.group() : ""), found ? 1 : 0, 0);
    }

    private static void words(String code) {
        absent(code, "\\b(throw|throws|try|catch|synchronized|assert|package|instanceof)\\b");
        absent(code, "->|::|@");
        absent(code, "import (?!java\\.util\\.(Arrays|ArrayList|List);)");
        absent(code, "\\b(System\\.(?!arraycopy)|Thread|Random|Object|Exception|Error|Exact)\\b");
        absent(code, "\\w+Exact\\b");
        absent(code, "static\\s*\\{");
        absent(code, "static (?!final\\b)[\\w\\[\\]]+ \\w+\\s*(=|;)");
        absent(code, "static final \\w+\\[\\]");
        absent(code, "\\b(protected|volatile|native|transient)\\b");
        absent(code, "[^\\x00-\\x7f]");
    }

    private static void methodLengths(String code) {
        String[] lines = code.split("\n", -1);
        int from = -1;
        for (int i = 0; i < lines.length; i++) {
            if (lines[i].matches("\\s+(public|private) .*\\)\\s*\\{")) {
                from = i;
            }
            if (from >= 0 && lines[i].matches(" {4}(?: {4})?\\}")) {
                Check.due("line " + (from + 1) + ": too long", i - from > 60 ? 1 : 0, 0);
                from = -1;
            }
        }
    }

    private static void members() {
        Set<String> open = new TreeSet<>();
        Set<String> hidden = new TreeSet<>();
        addMethods(ModeCells.class, open, hidden);
        Check.due("the face is " + open, String.join(",", open).equals(FACE) ? 1 : 0, 1);
        int classes = 1;
        for (Class<?> c : ModeCells.class.getDeclaredClasses()) {
            classes++;
            Check.due(c + " is static", Modifier.isStatic(c.getModifiers()) ? 1 : 0, 1);
            Check.due(c + " has few fields", instanceFields(c) <= 20 ? 1 : 0, 1);
            addMethods(c, new TreeSet<>(), hidden);
        }
        Check.due("classes", classes <= 12 ? 1 : 0, 1);
        hidden.retainAll(open);
        Check.due("hidden methods with names of the face: " + hidden, hidden.size(), 0);
        Set<String> constants = new TreeSet<>();
        for (Field f : ModeCells.class.getDeclaredFields()) {
            if (!Modifier.isPrivate(f.getModifiers())) {
                constants.add(f.getName());
            }
        }
        Check.due("constants are " + constants, constants.equals(Set.of("BAD", "STATE", "FULL", "NONE")) ? 1 : 0, 1);
        Check.due("constructors", ModeCells.class.getDeclaredConstructors().length, 1);
        Check.due("open constructors", ModeCells.class.getConstructors().length, 1);
    }

    private static void addMethods(Class<?> c, Set<String> open, Set<String> hidden) {
        for (Method m : c.getDeclaredMethods()) {
            Check.due(m + " takes few", m.getParameterCount() <= 7 ? 1 : 0, 1);
            if (c == ModeCells.class && !Modifier.isPrivate(m.getModifiers())) {
                open.add(m.getName());
                Check.due(m + " is public", Modifier.isPublic(m.getModifiers()) ? 1 : 0, 1);
            } else {
                hidden.add(m.getName());
            }
        }
    }

    private static int instanceFields(Class<?> c) {
        int fields = 0;
        for (Field f : c.getDeclaredFields()) {
            fields += Modifier.isStatic(f.getModifiers()) ? 0 : 1;
        }
        return fields;
    }

    /** What stands in the braces of each method and constructor, by its name; one name's bodies are put together. */
    private static Map<String, String> bodies(String code) {
        Map<String, String> bodies = new TreeMap<>();
        String header = "(?:public|private) (?:static )?(?:[\\w\\[\\]]+ )?(\\w+)\\([^()]*\\) \\{";
        Matcher m = Pattern.compile(header).matcher(code);
        while (m.find()) {
            int open = 1;
            int to = m.end();
            while (open > 0) {
                open += code.charAt(to) == '{' ? 1 : code.charAt(to) == '}' ? -1 : 0;
                to++;
            }
            bodies.merge(m.group(1), code.substring(m.end(), to), String::concat);
        }
        return bodies;
    }

    /** Rule 11: at most eight deep; as names alone are looked at, it may be told too deep, never too flat. */
    private static void callDepths(Map<String, String> bodies) {
        Check.due("methods found", bodies.size() > FACE.split(",").length ? 1 : 0, 1);
        for (String name : FACE.split(",")) {
            Check.due(name + " has a body", bodies.containsKey(name) ? 1 : 0, 1);
            Check.due(name + " goes too deep", depth(name, bodies, 1) > 8 ? 1 : 0, 0);
        }
        Check.due("the constructor goes too deep", depth("ModeCells", bodies, 1) > 8 ? 1 : 0, 0);
    }

    private static int depth(String name, Map<String, String> bodies, int level) {
        int most = level;
        Matcher m = Pattern.compile("\\b(\\w+)\\(").matcher(bodies.get(name));
        // A recursion, which the class does without, ends here, too, and is told as too deep.
        while (level <= 8 && m.find()) {
            if (bodies.containsKey(m.group(1))) {
                most = Math.max(most, depth(m.group(1), bodies, level + 1));
            }
        }
        return most;
    }

    /** All calls live in one room: what a call needs is made with the object and used again. */
    private static void newOnlyInConstructors(Map<String, String> bodies) {
        for (Map.Entry<String, String> body : bodies.entrySet()) {
            boolean makes = Pattern.compile("\\bnew\\b|\\bclone\\(|copyOf").matcher(body.getValue()).find();
            boolean isConstructor = Character.isUpperCase(body.getKey().charAt(0));
            Check.due(body.getKey() + " makes objects", makes && !isConstructor ? 1 : 0, 0);
        }
    }

    /** 512 calls, were they all of them new objects, must find room. */
    private static void room() throws ReflectiveOperationException {
        int[] made = objectsAndElements();
        Check.due(made[0] + " objects", made[0] * 512 <= 600_000 ? 1 : 0, 1);
        Check.due(made[1] + " fields and elements", made[1] * 512 <= 7_300_000 ? 1 : 0, 1);
    }

    private static int[] objectsAndElements() throws ReflectiveOperationException {
        Set<Object> met = Collections.newSetFromMap(new IdentityHashMap<>());
        Deque<Object> next = new ArrayDeque<>();
        next.add(new ModeCells());
        int elements = 0;
        while (!next.isEmpty()) {
            Object one = next.remove();
            if (!met.add(one)) {
                continue;
            }
            if (one.getClass().isArray()) {
                Check.due(one + " is of numbers", one.getClass().getComponentType().isPrimitive() ? 1 : 0, 1);
                elements += Array.getLength(one);
                continue;
            }
            elements += instanceFields(one.getClass());
            for (Field f : one.getClass().getDeclaredFields()) {
                f.setAccessible(true);
                if (!Modifier.isStatic(f.getModifiers()) && !f.getType().isPrimitive() && f.get(one) != null) {
                    next.add(f.get(one));
                }
            }
        }
        return new int[] {met.size(), elements};
    }
}
