import java.io.IOException;
import java.io.PrintWriter;
import java.net.URL;
import java.net.URLClassLoader;
import java.nio.file.Files;
import java.nio.file.Path;
import java.util.regex.Matcher;
import java.util.regex.Pattern;
import java.util.spi.ToolProvider;

/**
 * Compiles and runs the lines of Java in README.md, one block after the other. A number at the
 * beginning of a line's comment is the answer that is due.
 */
public final class ReadmeTest {
    private static final Pattern BLOCK = Pattern.compile("(?s)```java\\n(.*?)```");
    private static final Pattern TOLD =
            Pattern.compile("\\s*(?:int (\\w+) = )?(party\\.\\w+\\(.*\\)); +// (-?\\d+)\\b.*");
    private static final Pattern METHOD = Pattern.compile("public int (\\w+)\\(");
    private static final Checks checks = new Checks("ReadmeTest");

    public static void main(String[] args) throws Exception {
        String page = Files.readString(Path.of("README.md"));
        runLines(linesOf(page));
        methodsStandIn(page);
        checks.finish();
    }

    /** For the lines of the page, which are another class loader's. */
    public static void due(String line, long answer, long due) {
        checks.due(line, answer, due);
    }

    private static String linesOf(String page) {
        StringBuilder lines = new StringBuilder();
        for (Matcher block = BLOCK.matcher(page); block.find(); ) {
            lines.append(block.group(1));
        }
        return lines.toString();
    }

    private static void runLines(String lines) throws Exception {
        Path folder = Files.createTempDirectory("readme");
        Path source = folder.resolve("ReadmeLines.java");
        Path compiled = folder.resolve("ReadmeLines.class");
        try {
            Files.writeString(source, programOf(lines));
            ToolProvider javac = ToolProvider.findFirst("javac").orElseThrow();
            PrintWriter out = new PrintWriter(System.out, true);
            checks.due("whether the lines of README.md compile", javac.run(out, out,
                    "-cp", System.getProperty("java.class.path"), "-d", folder.toString(),
                    source.toString()), 0);
            try (URLClassLoader loader = new URLClassLoader(new URL[] {folder.toUri().toURL()})) {
                loader.loadClass("ReadmeLines").getMethod("run").invoke(null);
            }
        } finally {
            delete(source, compiled, folder);
        }
    }

    private static void delete(Path... paths) throws IOException {
        for (Path path : paths) {
            Files.deleteIfExists(path);
        }
    }

    private static String programOf(String lines) {
        StringBuilder program = new StringBuilder("public final class ReadmeLines {\n");
        program.append("public static void run() {\n");
        for (String line : lines.split("\n")) {
            Matcher told = TOLD.matcher(line);
            boolean isTold = told.matches();
            checks.due("whether this line tells an answer, if it has a comment: " + line,
                    isTold == line.contains("//") ? 1 : 0, 1);
            program.append(isTold ? checkOf(told) : line).append('\n');
        }
        return program.append("}\n}\n").toString();
    }

    private static String checkOf(Matcher told) {
        String name = told.group(1);
        String call = told.group(2);
        String kept = name == null ? "" : "int " + name + " = " + call + "; ";
        return kept + "ReadmeTest.due(\"" + call.replace("\"", "\\\"") + "\", "
                + (name == null ? call : name) + ", " + told.group(3) + ");";
    }

    /** Every method of the face is told of on the page. */
    private static void methodsStandIn(String page) throws IOException {
        String code = Files.readString(Path.of("src/main/java/StableParty.java"));
        for (Matcher method = METHOD.matcher(code); method.find(); ) {
            boolean stands = page.contains("`" + method.group(1) + "(");
            checks.due("whether README.md tells of " + method.group(1), stands ? 1 : 0, 1);
        }
    }
}
