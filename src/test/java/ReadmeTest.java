import java.io.IOException;
import java.lang.reflect.Method;
import java.lang.reflect.Modifier;
import java.net.URL;
import java.net.URLClassLoader;
import java.nio.file.Files;
import java.nio.file.Path;
import java.util.ArrayList;
import java.util.List;
import java.util.regex.Matcher;
import java.util.regex.Pattern;
import javax.tools.ToolProvider;

/** What README.md says a call answers is so; started in the project's directory. */
public final class ReadmeTest {
    private static final Pattern TOLD = Pattern.compile("(x\\.(\\w+)\\(.*\\));\\s*// (-?\\d+)(?::.*)?");
    private static final Pattern ASKED = Pattern.compile("x\\.\\w+\\(.*//.*");

    private record Told(String call, String name, int answer) {
    }

    public static void main(String[] args) throws Exception {
        String readme = Files.readString(Path.of("README.md"));
        List<String> example = example(readme);
        List<Told> told = told(example);
        int[] answers = answers(example);
        Check.due("answers of the example", answers.length, told.size());
        for (int i = 0; i < told.size() && i < answers.length; i++) {
            Check.due("README: " + told.get(i).call, answers[i], told.get(i).answer);
        }
        everyCallIsShown(told);
        constants(readme);
        testsAreNamed(readme);
        Check.report();
    }

    private static List<String> example(String readme) {
        Matcher m = Pattern.compile("(?s)```java\n(.*?)```").matcher(readme);
        List<String> lines = new ArrayList<>();
        int examples = 0;
        while (m.find()) {
            examples++;
            lines.addAll(List.of(m.group(1).split("\n")));
        }
        Check.due("examples", examples, 1);
        return lines;
    }

    private static List<Told> told(List<String> example) {
        List<Told> told = new ArrayList<>();
        for (String line : example) {
            Matcher m = TOLD.matcher(line);
            if (m.matches()) {
                told.add(new Told(m.group(1), m.group(2), Integer.parseInt(m.group(3))));
            } else {
                Check.due("a line that tells no number: " + line, ASKED.matcher(line).matches() ? 1 : 0, 0);
            }
        }
        return told;
    }

    /** Each line stays as it is, but that a call whose answer is told puts it into a list. */
    private static String asClass(List<String> example) {
        StringBuilder source = new StringBuilder("public final class Example {\n");
        source.append("public static java.util.List<Integer> answers() {\n");
        source.append("java.util.List<Integer> answers = new java.util.ArrayList<>();\n");
        for (String line : example) {
            Matcher m = TOLD.matcher(line);
            source.append(m.matches() ? "answers.add(" + m.group(1) + ");" : line).append('\n');
        }
        return source.append("return answers;\n}\n}\n").toString();
    }

    private static int[] answers(List<String> example) throws Exception {
        Path dir = Files.createTempDirectory("readme");
        Path source = dir.resolve("Example.java");
        try {
            Files.writeString(source, asClass(example));
            int said = ToolProvider.getSystemJavaCompiler().run(null, System.out, System.out, "--release", "17",
                    "-cp", System.getProperty("java.class.path"), "-d", dir.toString(), source.toString());
            Check.due("javac of the example", said, 0);
            return said == 0 ? called(dir) : new int[0];
        } finally {
            drop(dir);
        }
    }

    private static int[] called(Path dir) throws Exception {
        try (URLClassLoader loader = new URLClassLoader(new URL[] {dir.toUri().toURL()})) {
            List<?> all = (List<?>) loader.loadClass("Example").getMethod("answers").invoke(null);
            return all.stream().mapToInt(one -> (Integer) one).toArray();
        }
    }

    private static void drop(Path dir) throws IOException {
        Files.deleteIfExists(dir.resolve("Example.java"));
        Files.deleteIfExists(dir.resolve("Example.class"));
        Files.delete(dir);
    }

    private static void everyCallIsShown(List<Told> told) {
        for (Method m : ModeCells.class.getDeclaredMethods()) {
            if (Modifier.isPublic(m.getModifiers())) {
                boolean shown = told.stream().anyMatch(one -> one.name.equals(m.getName()));
                Check.due("the example shows " + m.getName(), shown ? 1 : 0, 1);
            }
        }
    }

    private static void constants(String readme) {
        String[] names = {"BAD", "STATE", "FULL", "NONE"};
        int[] values = {ModeCells.BAD, ModeCells.STATE, ModeCells.FULL, ModeCells.NONE};
        for (int i = 0; i < names.length; i++) {
            Matcher m = Pattern.compile("`" + names[i] + "` \\((-?\\d+)").matcher(readme);
            Check.due("README: " + names[i], m.find() ? Integer.parseInt(m.group(1)) : 0, values[i]);
        }
    }

    /** A test that README.md names is there, and each one that is there is named. */
    private static void testsAreNamed(String readme) throws IOException {
        List<String> there = new ArrayList<>();
        try (var files = Files.list(Path.of("src/test/java"))) {
            files.map(f -> f.getFileName().toString()).filter(f -> f.endsWith("Test.java"))
                    .forEach(f -> there.add(f.substring(0, f.length() - ".java".length())));
        }
        for (String name : there) {
            Check.due("README names " + name, readme.contains("`" + name + "`") ? 1 : 0, 1);
        }
        Matcher m = Pattern.compile("`(\\w+Test)`").matcher(readme);
        while (m.find()) {
            Check.due(m.group(1) + " is there", there.contains(m.group(1)) ? 1 : 0, 1);
        }
    }
}
