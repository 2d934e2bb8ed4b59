import java.io.IOException;
import java.net.URL;
import java.net.URLClassLoader;
import java.nio.file.Files;
import java.nio.file.Path;
import java.util.ArrayList;
import java.util.List;
import java.util.regex.Matcher;
import java.util.regex.Pattern;
import java.util.stream.Stream;
import javax.tools.JavaCompiler;
import javax.tools.ToolProvider;

/**
 * The Java of README.md is compiled and run; each call there must answer what the page says behind it.
 * The class is an open one, since the page's own class comes from another loader and calls it.
 */
public final class ReadmeTest {
    private static final Due DUE = new Due();
    private static final Pattern BLOCK = Pattern.compile("```java\n(.*?)```", Pattern.DOTALL);
    private static final Pattern CALL = Pattern.compile("(house\\.\\w+\\(.*?\\)); +// ([^:]+): .*");

    private ReadmeTest() {
    }

    public static void main(String[] args) throws Exception {
        String page = Files.readString(Path.of("README.md"));
        Path folder = Files.createTempDirectory("readme");
        try {
            runPage(page, folder);
        } finally {
            clear(folder);
        }
        DUE.finish("ReadmeTest");
    }

    /** The rows of the page's calls come here. */
    public static void due(String call, long got, long want) {
        DUE.due("README.md: " + call, got, want);
    }

    public static void due(String call, boolean got, boolean want) {
        DUE.due("README.md: " + call, got, want);
    }

    private static void runPage(String page, Path folder) throws Exception {
        Path source = folder.resolve("ReadmePage.java");
        Files.writeString(source, programOf(page));
        JavaCompiler compiler = ToolProvider.getSystemJavaCompiler();
        int failed = compiler.run(null, null, null, "-cp", System.getProperty("java.class.path"), "-d",
                folder.toString(), source.toString());
        DUE.due("the page compiles", failed, 0);
        if (failed == 0) {
            int before = DUE.asked();
            try (URLClassLoader loader = new URLClassLoader(new URL[] {folder.toUri().toURL()})) {
                loader.loadClass("ReadmePage").getMethod("run").invoke(null);
            }
            DUE.due("calls on the page", DUE.asked() - before >= 40, true);
        }
    }

    /** The helper's block stands as it is; of the others each row is a statement of one run. */
    private static String programOf(String page) {
        List<String> rows = new ArrayList<>();
        StringBuilder helpers = new StringBuilder();
        Matcher block = BLOCK.matcher(page);
        while (block.find()) {
            if (block.group(1).contains("static void")) {
                helpers.append(block.group(1));
            } else {
                rows.addAll(List.of(block.group(1).split("\n")));
            }
        }
        StringBuilder program = new StringBuilder("public class ReadmePage {\n");
        program.append(helpers).append("public static void run() {\n");
        for (String row : rows) {
            program.append(statementOf(row)).append('\n');
        }
        return program.append("}\n}\n").toString();
    }

    private static String statementOf(String row) {
        Matcher call = CALL.matcher(row);
        if (!call.matches()) {
            DUE.due("a row without an answer: " + row, row.contains("//"), false);
            return row;
        }
        String want = call.group(2).equals("NONE") ? "WokenBorder.NONE" : call.group(2);
        return "ReadmeTest.due(\"" + call.group(1) + "\", " + call.group(1) + ", " + want + ");";
    }

    private static void clear(Path folder) throws IOException {
        try (Stream<Path> files = Files.list(folder)) {
            for (Path file : files.toList()) {
                Files.delete(file);
            }
        }
        Files.delete(folder);
    }
}
