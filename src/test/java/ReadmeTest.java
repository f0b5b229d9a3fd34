import java.io.IOException;
import java.lang.reflect.Method;
import java.lang.reflect.Modifier;
import java.net.URL;
import java.net.URLClassLoader;
import java.nio.file.Files;
import java.nio.file.Path;
import java.util.LinkedHashMap;
import java.util.List;
import java.util.Map;
import java.util.regex.Matcher;
import java.util.regex.Pattern;
import java.util.stream.Stream;
import javax.tools.JavaCompiler;
import javax.tools.ToolProvider;

/** What README.md shows of calls and answers is so when it is run, and it names each test. */
public final class ReadmeTest {
    private static final Pattern BLOCK = Pattern.compile("(?s)```java\n(.*?)```");
    /** A call, perhaps kept under a name, and what it answers. */
    private static final Pattern SHOWN = Pattern.compile("(int (\\w+) = )?((?:x\\.)?\\w+\\(.*\\)); +// (-?\\d+)(: .*)?");

    public static void main(String[] args) throws IOException, ReflectiveOperationException {
        String page = Files.readString(Path.of("README.md"));
        Path out = Files.createTempDirectory("readme");
        try {
            run(program(page), out);
        } finally {
            try (Stream<Path> made = Files.list(out)) {
                for (Path file : made.toList()) Files.delete(file);
            }
            Files.delete(out);
        }
        eachCallIsShown(page);
        eachTestIsNamed(page);
        Due.holds("it says how to run the tests", page.contains("    .ci/run\n"));
        Due.end();
    }

    /** The blocks as one class: methods as they are, each call beside the answer that is shown. */
    private static String program(String page) {
        StringBuilder methods = new StringBuilder();
        StringBuilder steps = new StringBuilder();
        Matcher blocks = BLOCK.matcher(page);
        while (blocks.find()) {
            if (blocks.group(1).startsWith("static")) methods.append(blocks.group(1));
            else for (String line : blocks.group(1).split("\n")) steps.append(step(line)).append('\n');
        }
        return "public final class Shown {\n" + methods
            + "public static void all(java.util.Map<String, long[]> due) {\n" + steps + "}\n}\n";
    }

    private static String step(String line) {
        if (line.equals("FreshHorses x = new FreshHorses();")) return line;
        Matcher m = SHOWN.matcher(line);
        Due.holds("a call with its answer: " + line, m.matches());
        if (!m.matches()) return "";
        String kept = m.group(2) == null ? "" : m.group(1) + m.group(3) + "; ";
        String answer = m.group(2) == null ? m.group(3) : m.group(2);
        return kept + "due.put(due.size() + \" " + m.group(3).replace("\"", "\\\"") + "\", new long[] {" + answer + ", "
            + m.group(4) + "L});";
    }

    private static void run(String program, Path out) throws IOException, ReflectiveOperationException {
        Path file = Files.writeString(out.resolve("Shown.java"), program);
        JavaCompiler javac = ToolProvider.getSystemJavaCompiler();
        String path = System.getProperty("java.class.path");
        int failed = javac.run(null, null, null, "-cp", path, "-d", out.toString(), file.toString());
        Due.is("README.md compiles", failed, 0);
        if (failed != 0) return;
        Map<String, long[]> due = new LinkedHashMap<>();
        try (URLClassLoader loader = new URLClassLoader(new URL[] {out.toUri().toURL()})) {
            loader.loadClass("Shown").getMethod("all", Map.class).invoke(null, due);
        }
        due.forEach((call, answers) -> Due.is("README.md: " + call, answers[0], answers[1]));
        Due.holds("512 calls at most", due.size() < 400);
    }

    private static void eachCallIsShown(String page) {
        StringBuilder shown = new StringBuilder();
        Matcher blocks = BLOCK.matcher(page);
        while (blocks.find()) shown.append(blocks.group(1));
        for (Method m : FreshHorses.class.getDeclaredMethods()) {
            if (!Modifier.isPublic(m.getModifiers())) continue;
            Due.holds(m.getName() + " is shown", shown.indexOf("x." + m.getName() + "(") >= 0);
        }
    }

    private static void eachTestIsNamed(String page) throws IOException {
        try (Stream<Path> files = Files.list(Path.of("src/test/java"))) {
            List<String> names = files.map(f -> f.getFileName().toString().replace(".java", "")).toList();
            for (String name : names) {
                if (name.endsWith("Test")) Due.holds(name + " is named", page.contains("| `" + name + "` |"));
            }
            Matcher named = Pattern.compile("(?m)^\\| `(\\w+)` \\|").matcher(page);
            while (named.find()) Due.holds(named.group(1) + " is a test", names.contains(named.group(1)));
        }
    }
}
