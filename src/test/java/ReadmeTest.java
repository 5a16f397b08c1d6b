import java.io.File;
import java.net.URL;
import java.net.URLClassLoader;
import java.nio.file.Files;
import java.nio.file.Path;
import java.util.Comparator;
import java.util.regex.Matcher;
import java.util.regex.Pattern;
import java.util.stream.Stream;
import javax.tools.ToolProvider;

/** README's examples of use, as one run: each call answers what the page says behind it. */
public final class ReadmeTest {
    private static final Pattern BLOCK = Pattern.compile("```java\n(.*?)```", Pattern.DOTALL);
    private static final Pattern CALL = Pattern.compile("(x\\..*\\));\\s*// (-?\\d+|true|false)\\b.*");

    public static void main(String[] args) throws Exception {
        Path work = Files.createTempDirectory("readme");
        try {
            Path file = work.resolve("ReadmeRun.java");
            Files.writeString(file, programOf(Files.readString(Path.of("README.md"))));
            int code = ToolProvider.getSystemJavaCompiler().run(null, null, null, "-nowarn", "-cp",
                    System.getProperty("java.class.path"), "-d", work.toString(), file.toString());
            if (code != 0) {
                System.out.println("ReadmeTest: the examples do not compile");
                System.exit(1);
            }
            Check check = new Check();
            try (URLClassLoader loader = new URLClassLoader(new URL[] {work.toUri().toURL()})) {
                Runnable run = (Runnable) loader.loadClass("ReadmeRun").getConstructor().newInstance();
                run.run();
                for (Object[] row : (Object[][]) run.getClass().getMethod("rows").invoke(run)) {
                    check.due("README: " + row[0], numberOf(row[1]), numberOf(row[2]));
                }
            }
            check.finish("ReadmeTest");
        } finally {
            delete(work);
        }
    }

    /** Blocks that begin with 'static' are methods; all others, one behind another, are the run. */
    private static String programOf(String page) {
        StringBuilder methods = new StringBuilder();
        StringBuilder run = new StringBuilder();
        Matcher block = BLOCK.matcher(page);
        while (block.find()) {
            if (block.group(1).startsWith("static")) {
                methods.append(block.group(1));
            } else {
                block.group(1).lines().map(ReadmeTest::asRow).forEach(run::append);
            }
        }
        return "public class ReadmeRun implements Runnable {\n"
                + "private final java.util.List<Object[]> rows = new java.util.ArrayList<>();\n"
                + "public Object[][] rows() { return rows.toArray(new Object[0][]); }\n"
                + methods + "public void run() {\n" + run + "}\n}\n";
    }

    private static String asRow(String line) {
        Matcher call = CALL.matcher(line);
        if (!call.matches()) {
            if (line.startsWith("x.")) throw new IllegalStateException("README: no answer behind " + line);
            return line + "\n";
        }
        return "rows.add(new Object[] {\"" + call.group(1) + "\", " + call.group(1) + ", " + call.group(2) + "});\n";
    }

    private static long numberOf(Object answer) {
        return answer instanceof Boolean told ? (told ? 1 : 0) : ((Number) answer).longValue();
    }

    private static void delete(Path work) throws Exception {
        try (Stream<Path> files = Files.walk(work)) {
            files.sorted(Comparator.reverseOrder()).map(Path::toFile).forEach(File::delete);
        }
    }
}
