import java.io.File;
import java.net.URL;
import java.net.URLClassLoader;
import java.nio.file.Files;
import java.nio.file.Path;
import java.util.List;
import java.util.regex.Matcher;
import java.util.regex.Pattern;
import javax.tools.ToolProvider;

/** Compiles the lines of Java in README.md and holds each answer against the one that stands behind the line. */
public final class ReadmeTest {
    private static final Pattern LINE = Pattern.compile("(int (\\w+) = )?(day\\..+);\\s+// (-?\\d+|true|false): .+");
    private static final Check CHECK = new Check("ReadmeTest");

    public static void main(String[] args) throws Exception {
        List<String> lines = Files.readAllLines(Path.of("README.md"));
        int begin = lines.indexOf("```java") + 1;
        int end = begin + lines.subList(begin, lines.size()).indexOf("```");
        Path folder = Files.createTempDirectory("readme");
        try {
            run(folder, program(lines.subList(begin, end)));
        } finally {
            for (File file : folder.toFile().listFiles()) {
                file.delete();
            }
            folder.toFile().delete();
        }
        CHECK.end();
    }

    public static void hold(String call, Object got, Object due) {
        CHECK.yes(call + " answered " + got + ", README.md says " + due, got.equals(due));
    }

    private static String program(List<String> lines) {
        StringBuilder program = new StringBuilder("public final class Readme { public static void run() {\n");
        for (String line : lines) {
            Matcher parts = LINE.matcher(line);
            if (parts.matches()) {
                String declared = parts.group(2);
                program.append(declared == null ? "" : parts.group(1) + parts.group(3) + ";\n");
                program.append("ReadmeTest.hold(\"").append(parts.group(3)).append("\", ");
                program.append(declared == null ? parts.group(3) : declared);
                program.append(", ").append(parts.group(4)).append(");\n");
            } else {
                CHECK.yes("can be read: " + line, line.equals("ShoreDay day = new ShoreDay();"));
                program.append(line).append('\n');
            }
        }
        return program.append("} }\n").toString();
    }

    private static void run(Path folder, String program) throws Exception {
        Path file = Files.writeString(folder.resolve("Readme.java"), program);
        int wrong = ToolProvider.getSystemJavaCompiler().run(null, null, null, "-cp",
                System.getProperty("java.class.path"), "-d", folder.toString(), file.toString());
        CHECK.same("compiling the lines of README.md", wrong, 0);
        if (wrong == 0) {
            try (URLClassLoader loader = new URLClassLoader(new URL[] {folder.toUri().toURL()})) {
                loader.loadClass("Readme").getMethod("run").invoke(null);
            }
        }
    }
}
