import java.io.IOException;
import java.lang.reflect.Method;
import java.lang.reflect.Modifier;
import java.net.URL;
import java.net.URLClassLoader;
import java.nio.file.DirectoryStream;
import java.nio.file.Files;
import java.nio.file.Path;
import java.util.ArrayList;
import java.util.List;
import java.util.regex.Matcher;
import java.util.regex.Pattern;
import javax.tools.ToolProvider;

/**
 * README.md: each call in it answers as it says, each call of the face and each test is in it. Its Java is made
 * into one class, compiled and run. It is run from the project's folder.
 */
public final class ReadmeTest {
    private static final Check CHECK = new Check();
    private static final Pattern CALL = Pattern.compile("((?:x\\.\\w+|tell)\\(.*\\));\\s*// (-?\\d+|true|false)\\b.*");
    private static final String NEW = "KindPostman x = new KindPostman();";

    /** What the calls of the page are held against; the class made of the page calls it. */
    public static void due(String call, int got, int want) {
        CHECK.due(call, got, want);
    }

    public static void due(String call, boolean got, boolean want) {
        CHECK.due(call, got, want);
    }

    public static void main(String[] args) throws IOException, ReflectiveOperationException {
        String page = Files.readString(Path.of("README.md"));
        runBlocks(page);
        for (Method m : KindPostman.class.getDeclaredMethods()) {
            if (Modifier.isPublic(m.getModifiers())) {
                CHECK.due("a call of " + m.getName(), page.contains("\nx." + m.getName() + "("), true);
                CHECK.due("a word on " + m.getName(), page.contains("`" + m.getName() + "`"), true);
            }
        }
        try (DirectoryStream<Path> tests = Files.newDirectoryStream(Path.of("src/test/java"), "*Test.java")) {
            for (Path test : tests) {
                String name = test.getFileName().toString().replace(".java", "");
                CHECK.due("a row of " + name, page.contains("| `" + name + "` |"), true);
            }
        }
        CHECK.end();
    }

    private static void runBlocks(String page) throws IOException, ReflectiveOperationException {
        List<String> source = new ArrayList<>(List.of("public final class Page {"));
        List<String> run = new ArrayList<>(List.of("public static void run() {", "KindPostman x = null;"));
        Matcher block = Pattern.compile("```java\\n(.*?)```", Pattern.DOTALL).matcher(page);
        while (block.find()) {
            boolean isMember = block.group(1).startsWith("static ");
            for (String line : block.group(1).split("\n")) {
                if (isMember) {
                    source.add(line);
                } else {
                    run.add(asked(line));
                }
            }
        }
        run.add("}");
        source.addAll(run);
        source.add("}");
        runPage(source);
    }

    /** A line of the page as the page's class has it: an answer that is told is looked at. */
    private static String asked(String line) {
        Matcher call = CALL.matcher(line);
        if (line.equals(NEW)) {
            return "x = new KindPostman();";
        }
        CHECK.due("an answer to: " + line, call.matches(), true);
        if (!call.matches()) {
            return "";
        }
        String quoted = call.group(1).replace("\"", "'");
        return "ReadmeTest.due(\"" + quoted + "\", " + call.group(1) + ", " + call.group(2) + ");";
    }

    private static void runPage(List<String> source) throws IOException, ReflectiveOperationException {
        Path folder = Files.createTempDirectory("page");
        Path file = folder.resolve("Page.java");
        Files.write(file, source);
        String path = System.getProperty("java.class.path");
        int code = ToolProvider.getSystemJavaCompiler().run(null, null, null, "-proc:none", "-cp", path, "-d",
            folder.toString(), file.toString());
        CHECK.due("the page compiles", code == 0, true);
        if (code == 0) {
            URL[] where = {folder.toUri().toURL()};
            try (URLClassLoader loader = new URLClassLoader(where, ReadmeTest.class.getClassLoader())) {
                loader.loadClass("Page").getMethod("run").invoke(null);
            }
        }
        Files.deleteIfExists(folder.resolve("Page.class"));
        Files.delete(file);
        Files.delete(folder);
    }
}
