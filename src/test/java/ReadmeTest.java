import java.io.IOException;
import java.io.StringWriter;
import java.net.URI;
import java.net.URL;
import java.net.URLClassLoader;
import java.nio.file.Files;
import java.nio.file.Path;
import java.util.ArrayList;
import java.util.Comparator;
import java.util.List;
import java.util.regex.Matcher;
import java.util.regex.Pattern;
import java.util.stream.Stream;
import javax.tools.JavaCompiler;
import javax.tools.JavaFileObject;
import javax.tools.SimpleJavaFileObject;
import javax.tools.ToolProvider;

/**
 * Compiles and runs the examples of README.md. Behind the last call of a line stands "// answer: why", the answer
 * in Java, or "throws" and the name of an exception.
 */
public final class ReadmeTest {
    private static final Pattern ANSWERED = Pattern.compile("^(.*;\\s*|)(\\S[^;]*);\\s*// (throws \\w+|[^:]+): .+$");
    private static final int LEAST_ANSWERS = 60;

    private static int answers;
    private static int wrong;

    public static void main(String[] args) throws Exception {
        List<String> lines = Files.readAllLines(Path.of("README.md"));
        Path folder = Files.createTempDirectory("readme");
        try {
            run(folder, sourceOf(lines));
        } finally {
            remove(folder);
        }
        if (answers < LEAST_ANSWERS) {
            tell("README.md shows only " + answers + " answers");
        }
        System.out.println("ReadmeTest: " + answers + " answers, " + (wrong == 0 ? "all are as due" : wrong + " are not as due"));
        if (wrong != 0) {
            System.exit(1);
        }
    }

    private static void tell(String what) {
        wrong++;
        System.out.println(what);
    }

    /** For the lines of the examples: what they answer is compared here. */
    public static void due(String line, Object got, Object want) {
        answers++;
        if (!want.equals(got)) {
            tell("README.md: " + line + " answered " + got);
        }
    }

    /** A block that begins with "static" has methods for all the others, each of which becomes a method of its own. */
    private static String sourceOf(List<String> lines) {
        StringBuilder members = new StringBuilder();
        StringBuilder calls = new StringBuilder();
        int blocks = 0;
        for (List<String> block : blocksOf(lines)) {
            if (block.get(0).startsWith("static")) {
                block.forEach(line -> members.append(line).append('\n'));
            } else {
                members.append("static void example").append(blocks).append("() {\n");
                block.forEach(line -> members.append(statementOf(line)).append('\n'));
                members.append("}\n");
                calls.append("example").append(blocks).append("();\n");
                blocks++;
            }
        }
        return "public final class Examples {\n" + members + "public static void all() {\n" + calls + "}\n}\n";
    }

    private static List<List<String>> blocksOf(List<String> lines) {
        List<List<String>> blocks = new ArrayList<>();
        List<String> block = null;
        for (String line : lines) {
            if (line.equals("```java")) {
                block = new ArrayList<>();
            } else if (line.equals("```") && block != null) {
                blocks.add(block);
                block = null;
            } else if (block != null) {
                block.add(line);
            }
        }
        return blocks;
    }

    private static String statementOf(String line) {
        Matcher parts = ANSWERED.matcher(line);
        if (!parts.matches()) {
            if (line.contains("//")) {
                tell("README.md: no answer is seen in " + line);
            }
            return line;
        }
        String ahead = parts.group(1);
        String call = parts.group(2);
        String answer = parts.group(3);
        String quoted = '"' + line.replace("\\", "\\\\").replace("\"", "\\\"") + '"';
        if (!answer.startsWith("throws ")) {
            return ahead + "ReadmeTest.due(" + quoted + ", " + call + ", " + answer + ");";
        }
        String name = answer.substring("throws ".length());
        return ahead + "{ Object got; try { got = " + call + "; } catch (RuntimeException e) { got = e.getClass(); }"
            + " ReadmeTest.due(" + quoted + ", got, " + name + ".class); }";
    }

    private static void run(Path folder, String source) throws Exception {
        JavaFileObject file = new SimpleJavaFileObject(URI.create("string:///Examples.java"), JavaFileObject.Kind.SOURCE) {
            @Override
            public CharSequence getCharContent(boolean ignoreEncodingErrors) {
                return source;
            }
        };
        List<String> options = List.of("-d", folder.toString(), "-proc:none", "-cp", System.getProperty("java.class.path"));
        JavaCompiler compiler = ToolProvider.getSystemJavaCompiler();
        StringWriter told = new StringWriter();
        if (!compiler.getTask(told, null, null, options, null, List.of(file)).call()) {
            tell("the examples of README.md are not compiled:\n" + told);
            return;
        }
        try (URLClassLoader loader = new URLClassLoader(new URL[] {folder.toUri().toURL()}, ReadmeTest.class.getClassLoader())) {
            loader.loadClass("Examples").getMethod("all").invoke(null);
        }
    }

    private static void remove(Path folder) throws IOException {
        try (Stream<Path> files = Files.walk(folder)) {
            for (Path file : files.sorted(Comparator.reverseOrder()).toList()) {
                Files.delete(file);
            }
        }
    }
}
