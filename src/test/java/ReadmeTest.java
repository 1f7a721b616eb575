import java.io.IOException;
import java.lang.reflect.Method;
import java.lang.reflect.Modifier;
import java.net.URL;
import java.net.URLClassLoader;
import java.nio.file.DirectoryStream;
import java.nio.file.Files;
import java.nio.file.Path;
import java.util.ArrayList;
import java.util.Comparator;
import java.util.List;
import java.util.regex.Matcher;
import java.util.regex.Pattern;
import java.util.stream.Stream;
import javax.tools.ToolProvider;

/** README.md: its example is compiled and run, and it names each call, each finding and each test. */
public final class ReadmeTest {
    /** A line of the example with the answer that it tells. */
    private static final Pattern TOLD = Pattern.compile("(?:int (\\w+) = )?(land\\.\\w+\\(.*\\)); *// (-?\\d+): .*");

    public static void main(String[] args) throws Exception {
        String readme = Files.readString(Path.of("README.md"));
        example(blocks(readme));
        calls(readme);
        findings(readme);
        tests(readme);
        yes("512 calls", readme.contains("at most 512 calls"));
        yes(".ci/run", readme.contains("`.ci/run`"));
        Check.end();
    }

    private static List<String> blocks(String readme) {
        List<String> blocks = new ArrayList<>();
        Matcher m = Pattern.compile("```java\n(.*?)```", Pattern.DOTALL).matcher(readme);
        while (m.find()) {
            blocks.add(m.group(1));
        }
        return blocks;
    }

    /** The first block is what is run, the second one the method that it uses. */
    private static void example(List<String> blocks) throws Exception {
        Check.due("blocks of Java", blocks.size(), 2);
        StringBuilder body = new StringBuilder();
        List<String> lines = new ArrayList<>();
        List<Long> told = new ArrayList<>();
        for (String line : blocks.get(0).split("\n")) {
            Matcher m = TOLD.matcher(line);
            if (!m.matches()) {
                body.append(line).append('\n');
                continue;
            }
            if (m.group(1) != null) {
                body.append("int ").append(m.group(1)).append(" = ").append(m.group(2)).append(";\n");
            }
            body.append("got[").append(lines.size()).append("] = ")
                    .append(m.group(1) != null ? m.group(1) : m.group(2)).append(";\n");
            lines.add(line);
            told.add(Long.valueOf(m.group(3)));
        }
        yes("calls in the example", lines.size() >= 10);
        long[] got = new long[lines.size()];
        run("public final class ReadmeExample {\n" + blocks.get(1)
                + "public static void run(long[] got) {\n" + body + "}\n}\n", got);
        for (int i = 0; i < got.length; i++) {
            Check.due(lines.get(i), got[i], told.get(i));
        }
    }

    private static void run(String source, long[] got) throws Exception {
        Path dir = Files.createTempDirectory("readme");
        try {
            Path file = dir.resolve("ReadmeExample.java");
            Files.writeString(file, source);
            int answer = ToolProvider.getSystemJavaCompiler().run(null, null, null,
                    "-cp", System.getProperty("java.class.path"), "-d", dir.toString(), file.toString());
            Check.due("the example compiles", answer, 0);
            if (answer == 0) {
                try (URLClassLoader loader = new URLClassLoader(new URL[] {dir.toUri().toURL()})) {
                    loader.loadClass("ReadmeExample").getMethod("run", long[].class).invoke(null, (Object) got);
                }
            }
        } finally {
            remove(dir);
        }
    }

    private static void remove(Path dir) throws IOException {
        try (Stream<Path> all = Files.walk(dir)) {
            for (Path p : all.sorted(Comparator.reverseOrder()).toList()) {
                Files.delete(p);
            }
        }
    }

    /** Each call has a row that begins with it, with as many arguments as it takes. */
    private static void calls(String readme) {
        for (Method m : DebtYear.class.getDeclaredMethods()) {
            if (Modifier.isPublic(m.getModifiers())) {
                Matcher row = Pattern.compile("^\\| `" + m.getName() + "\\(([\\w, ]*)\\)` \\| .+ \\|$", Pattern.MULTILINE).matcher(readme);
                boolean has = row.find();
                yes("a row of " + m.getName(), has);
                if (has) {
                    int told = row.group(1).isEmpty() ? 0 : row.group(1).split(", ").length;
                    Check.due("arguments of " + m.getName(), told, m.getParameterCount());
                }
            }
        }
    }

    private static void findings(String readme) {
        String[] names = {"BEYOND", "MISSING", "SIZE", "KIND", "FULL", "NONE", "TAKEN", "BARRED"};
        for (int i = 0; i < names.length; i++) {
            yes("a row of " + names[i], readme.contains("| " + names[i] + " | " + (-100001 - i) + " |"));
        }
    }

    private static void tests(String readme) throws IOException {
        try (DirectoryStream<Path> files = Files.newDirectoryStream(Path.of("src/test/java"), "*Test.java")) {
            for (Path p : files) {
                String name = p.getFileName().toString().replace(".java", "");
                yes("a row of " + name, Pattern.compile("^\\|[^|]*\\b" + name + "\\b", Pattern.MULTILINE).matcher(readme).find());
            }
        }
    }

    private static void yes(String what, boolean is) {
        Check.due(what, is ? 1 : 0, 1);
    }
}
