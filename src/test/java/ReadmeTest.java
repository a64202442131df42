import java.io.IOException;
import java.lang.reflect.Method;
import java.net.URL;
import java.net.URLClassLoader;
import java.nio.file.Files;
import java.nio.file.Path;
import java.util.ArrayList;
import java.util.List;
import java.util.function.Supplier;
import java.util.regex.Matcher;
import java.util.regex.Pattern;
import javax.tools.ToolProvider;

/** The examples of README.md, compiled and run as one program: what they show as answers is what the class answers. */
public final class ReadmeTest {
    /** A call with what it answers behind it: // answer, or // answer: why. */
    private static final Pattern SHOWN =
            Pattern.compile("(?:int (\\w+) = )?(\\w+\\.\\w+\\(.*\\));\\s+// ([^:]*)(?::.*)?");

    private static int shown = 0;

    public static void main(String[] args) throws Exception {
        List<String> program = program(Files.readAllLines(Path.of("README.md")));
        eachCallIsShown(program);
        Path folder = Files.createTempDirectory("readme");
        try {
            run(folder, program);
        } finally {
            delete(folder);
        }
        Check.due("examples that were run", shown > 0, true);
        Check.end("ReadmeTest");
    }

    /** Compared here, as a class from another loader does not see those of the tests that are not public. */
    public static void answers(String call, Supplier<Object> called, String want) {
        shown++;
        Check.due(call, answer(called), want);
    }

    private static String answer(Supplier<Object> called) {
        try {
            return String.valueOf(called.get());
        } catch (RuntimeException e) {
            return "throws " + e.getClass().getSimpleName();
        }
    }

    private static List<String> program(List<String> lines) {
        List<String> program = new ArrayList<>();
        StringBuilder written = new StringBuilder();
        String block = "";
        for (String line : lines) {
            if (line.startsWith("```")) {
                if (block.equals("text")) {
                    program.add(compared("text", "text", written.toString()));
                    written.setLength(0);
                }
                block = line.substring(3);
            } else if (block.equals("java")) {
                program.add(statement(line));
            } else if (block.equals("text")) {
                written.append(line).append("\n");
            }
        }
        return program;
    }

    private static String statement(String line) {
        Matcher matcher = SHOWN.matcher(line);
        if (!matcher.matches()) {
            Check.due("an answer that is not understood: " + line, line.contains("//"), false);
            return line;
        }
        String call = matcher.group(2);
        String want = matcher.group(3).trim();
        String name = matcher.group(1);
        return name == null ? compared(call, call, want)
                : "int " + name + " = " + call + "; " + compared(call, name, want);
    }

    private static String compared(String call, String value, String want) {
        return "ReadmeTest.answers(" + quoted(call) + ", () -> " + value + ", " + quoted(want) + ");";
    }

    private static String quoted(String text) {
        return "\"" + text.replace("\\", "\\\\").replace("\"", "\\\"").replace("\n", "\\n") + "\"";
    }

    private static void eachCallIsShown(List<String> program) {
        String whole = String.join("\n", program);
        for (Method method : DrillArchive.class.getMethods()) {
            if (method.getDeclaringClass() == DrillArchive.class) {
                Check.due(method.getName() + " is shown", whole.contains("." + method.getName() + "("), true);
            }
        }
    }

    private static void run(Path folder, List<String> program) throws Exception {
        Path source = folder.resolve("Shown.java");
        Files.writeString(source, "public final class Shown {\n    public static void run() {\n"
                + String.join("\n", program) + "\n    }\n}\n");
        int failed = ToolProvider.getSystemJavaCompiler().run(null, null, null, "-proc:none",
                "-cp", System.getProperty("java.class.path"), "-d", folder.toString(), source.toString());
        Check.due("the examples are compiled", failed, 0);
        if (failed == 0) {
            try (URLClassLoader loader = new URLClassLoader(new URL[] {folder.toUri().toURL()})) {
                loader.loadClass("Shown").getMethod("run").invoke(null);
            }
        }
    }

    private static void delete(Path folder) throws IOException {
        try (var files = Files.list(folder)) {
            for (Path file : files.toList()) {
                Files.delete(file);
            }
        }
        Files.delete(folder);
    }
}
