import java.io.IOException;
import java.net.URL;
import java.net.URLClassLoader;
import java.nio.file.Files;
import java.nio.file.Path;
import java.util.List;
import java.util.regex.Matcher;
import java.util.regex.Pattern;
import java.util.stream.Stream;
import javax.tools.JavaCompiler;
import javax.tools.ToolProvider;

/**
 * The example in README.md, line by line: behind "// ->" stands the answer of a call, behind "// throws" its exception.
 * It is made into a class, compiled and run, so that what a reader copies is what was tested. Run from the root.
 */
public final class ReadmeTests {
    private static final Pattern ANSWER = Pattern.compile("(?:int (\\w+) = )?(.*);\\s*// (->|throws) (\\S+)");

    private ReadmeTests() {
    }

    public static void main(String[] args) throws IOException, ReflectiveOperationException {
        List<String> lines = example(Files.readString(Path.of("README.md")));
        Due.holds("the example has " + lines.size() + " lines", lines.size() > 30);
        JavaCompiler compiler = ToolProvider.getSystemJavaCompiler();
        Due.holds("this Java has its compiler", compiler != null);
        if (compiler != null) {
            compileAndPlay(compiler, lines);
        }
        Due.end("ReadmeTests");
    }

    private static void compileAndPlay(JavaCompiler compiler, List<String> lines) throws IOException, ReflectiveOperationException {
        Path made = Files.createTempDirectory("readme");
        try {
            Path file = made.resolve("Example.java");
            Files.writeString(file, program(lines));
            String path = System.getProperty("java.class.path");
            int code = compiler.run(null, null, null, "-cp", path, "-d", made.toString(), file.toString());
            Due.is("the example's compilation", code, 0);
            if (code == 0) {
                play(made);
            }
        } finally {
            remove(made);
        }
    }

    /** The lines of the first block of Java in the text. */
    private static List<String> example(String text) {
        int start = text.indexOf("```java\n") + 8;
        return text.substring(start, text.indexOf("```", start)).lines().toList();
    }

    /** A class whose answers are a row for each call that tells what is due: the call, what is told, what it was. */
    private static String program(List<String> lines) {
        StringBuilder all = new StringBuilder("public final class Example {\n");
        all.append("public static java.util.List<String[]> rows() {\n");
        all.append("java.util.List<String[]> rows = new java.util.ArrayList<>();\n");
        for (String line : lines) {
            Matcher m = ANSWER.matcher(line);
            if (!m.matches()) {
                all.append(line).append('\n');
                continue;
            }
            String call = m.group(2);
            String answer = "String.valueOf(" + call + ")";
            if (m.group(1) != null) {
                all.append(line).append('\n');
                answer = "String.valueOf(" + m.group(1) + ")";
            }
            String row = "rows.add(new String[] {\"" + call + "\", \"" + m.group(4) + "\", ";
            all.append("try { ").append(row).append(answer).append("}); } catch (RuntimeException e) { ");
            all.append(row).append("e.getClass().getSimpleName()}); }\n");
        }
        return all.append("return rows;\n}\n}\n").toString();
    }

    private static void play(Path made) throws IOException, ReflectiveOperationException {
        try (URLClassLoader loader = new URLClassLoader(new URL[] {made.toUri().toURL()})) {
            List<?> rows = (List<?>) loader.loadClass("Example").getMethod("rows").invoke(null);
            for (Object each : rows) {
                String[] row = (String[]) each;
                Due.holds(row[0] + " answered " + row[2] + ", README.md tells " + row[1] + ": this", row[1].equals(row[2]));
            }
            Due.holds("the calls that tell their answers: " + rows.size(), rows.size() > 25);
        }
    }

    private static void remove(Path made) throws IOException {
        try (Stream<Path> files = Files.list(made)) {
            for (Path file : files.toList()) {
                Files.delete(file);
            }
        }
        Files.delete(made);
    }
}
