import java.io.IOException;
import java.io.StringWriter;
import java.lang.reflect.Method;
import java.lang.reflect.Modifier;
import java.net.URL;
import java.net.URLClassLoader;
import java.nio.charset.StandardCharsets;
import java.nio.file.Files;
import java.nio.file.Path;
import java.util.ArrayList;
import java.util.List;
import java.util.Set;
import java.util.TreeSet;
import java.util.function.Supplier;
import java.util.regex.Matcher;
import java.util.regex.Pattern;
import javax.tools.JavaCompiler;
import javax.tools.StandardJavaFileManager;
import javax.tools.ToolProvider;

/** The calls that README.md shows are made, and answer what it shows; it shows every call of the face. */
final class ReadmeTest {
    private static final Check CHECK = new Check("Readme");
    private static final Pattern BLOCK = Pattern.compile("\n```java\n(.*?)\n```", Pattern.DOTALL);
    private static final Pattern SHOWN = Pattern.compile("(x\\.(\\w+)\\(.*\\)); *// (-?\\d+|NONE|UNKNOWN|OUTSIDE|NOT|FULL)\\b.*");
    private static final Pattern CONSTANT = Pattern.compile("\n\\| `([A-Z]+)` \\| (-?\\d+) \\|");
    private static final int MOST_CALLS = 512;

    public static void main(String[] args) throws Exception {
        String readme = Files.readString(Path.of("README.md"), StandardCharsets.UTF_8);
        constants(readme);
        List<String> shown = new ArrayList<>();
        List<Object[]> calls = made(source(readme, shown));
        for (Object[] call : calls) {
            CHECK.due((String) call[0], (Long) call[1], (Long) call[2]);
        }
        everyCallIsShown(shown);
        CHECK.due("no more calls than an object is made for", calls.size() < MOST_CALLS ? 1 : 0, 1);
        CHECK.end();
    }

    private static void constants(String readme) throws ReflectiveOperationException {
        Matcher row = CONSTANT.matcher(readme);
        Set<String> found = new TreeSet<>();
        while (row.find()) {
            found.add(row.group(1));
            CHECK.due(row.group(1), CrossedSheets.class.getField(row.group(1)).getInt(null), Long.parseLong(row.group(2)));
        }
        CHECK.due("the refusals that are told", String.join(" ", found), "FULL NOT OUTSIDE UNKNOWN");
    }

    /** The lines of all blocks in one method, each call that stands for itself so that its answer is kept. */
    private static String source(String readme, List<String> shown) {
        StringBuilder lines = new StringBuilder();
        Matcher block = BLOCK.matcher(readme);
        while (block.find()) {
            for (String line : block.group(1).split("\n")) {
                Matcher call = SHOWN.matcher(line);
                boolean isShown = call.matches();
                CHECK.due("'" + line + "' tells its answer", isShown || !line.startsWith("x.") ? 1 : 0, 1);
                if (isShown) {
                    shown.add(call.group(2));
                }
                lines.append(isShown ? kept(call) : line).append('\n');
            }
        }
        return "import java.util.*;\npublic final class Shown implements java.util.function.Supplier<List<Object[]>> {\n"
            + "public List<Object[]> get() {\nList<Object[]> calls = new ArrayList<>();\n" + lines
            + "return calls;\n}\n}\n";
    }

    private static String kept(Matcher shown) {
        String want = shown.group(3).matches("[A-Z]+") ? "CrossedSheets." + shown.group(3) : shown.group(3);
        return "calls.add(new Object[] {\"" + shown.group(1) + "\", (long) " + shown.group(1) + ", (long) " + want + "});";
    }

    private static List<Object[]> made(String source) throws IOException, ReflectiveOperationException {
        Path folder = Files.createTempDirectory("readme");
        Path file = folder.resolve("Shown.java");
        Files.writeString(file, source, StandardCharsets.UTF_8);
        JavaCompiler compiler = ToolProvider.getSystemJavaCompiler();
        StringWriter told = new StringWriter();
        try (StandardJavaFileManager files = compiler.getStandardFileManager(null, null, null)) {
            List<String> options = List.of("-cp", System.getProperty("java.class.path"), "-d", folder.toString());
            boolean isRight = compiler.getTask(told, files, null, options, null, files.getJavaFileObjects(file)).call();
            CHECK.due("the blocks of README.md as Java: " + told, isRight ? 1 : 0, 1);
            if (!isRight) {
                return new ArrayList<>();
            }
        }
        try (URLClassLoader loader = new URLClassLoader(new URL[] {folder.toUri().toURL()})) {
            @SuppressWarnings("unchecked")
            Supplier<List<Object[]>> shown =
                (Supplier<List<Object[]>>) loader.loadClass("Shown").getConstructor().newInstance();
            return shown.get();
        } finally {
            Files.deleteIfExists(folder.resolve("Shown.class"));
            Files.deleteIfExists(file);
            Files.deleteIfExists(folder);
        }
    }

    private static void everyCallIsShown(List<String> shown) {
        for (Method method : CrossedSheets.class.getDeclaredMethods()) {
            if (Modifier.isPublic(method.getModifiers())) {
                CHECK.due(method.getName() + " is shown", shown.contains(method.getName()) ? 1 : 0, 1);
            }
        }
    }
}
