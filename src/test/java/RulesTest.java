import java.io.IOException;
import java.lang.management.ManagementFactory;
import java.lang.reflect.Array;
import java.lang.reflect.Constructor;
import java.lang.reflect.Field;
import java.lang.reflect.InaccessibleObjectException;
import java.lang.reflect.Method;
import java.lang.reflect.Modifier;
import java.nio.charset.StandardCharsets;
import java.nio.file.Files;
import java.nio.file.Path;
import java.util.Collections;
import java.util.IdentityHashMap;
import java.util.Set;
import java.util.TreeSet;
import java.util.regex.Matcher;
import java.util.regex.Pattern;

/** The face, the rules of LANGUAGE.md that can be seen from outside, and the room that an object takes. */
final class RulesTest {
    private static final Check CHECK = new Check("Rules");
    private static final int MOST_ELEMENTS = 17000;
    private static final int MOST_CLASSES = 12, MOST_FIELDS = 20, MOST_PARAMETERS = 7, MOST_LINES = 60;

    private static int elements;

    public static void main(String[] args) throws IOException, ReflectiveOperationException {
        face();
        classesInside();
        methodsAreShort();
        words();
        room();
        callsMakeNothing();
        CHECK.end();
    }

    /** The face is that of the document, member for member: what is not private, and its types. */
    private static void face() throws IOException {
        String doc = Files.readString(Path.of("../shared/DOC.md"), StandardCharsets.UTF_8);
        String block = doc.substring(doc.indexOf("```java"), doc.indexOf("```\n", doc.indexOf("```java") + 7));
        Set<String> asked = new TreeSet<>();
        Matcher method = Pattern.compile("public (int|long) (\\w+)\\(([^)]*)\\);").matcher(block);
        while (method.find()) {
            asked.add(method.group(1) + " " + method.group(2) + "(" + typesOf(method.group(3)) + ")");
        }
        Matcher constant = Pattern.compile("\\b([A-Z]+) = (-?\\d+)").matcher(block);
        while (constant.find()) {
            asked.add("public static final int " + constant.group(1) + " = " + constant.group(2));
        }
        Matcher constructor = Pattern.compile("public CrossedSheets\\(\\)").matcher(block);
        while (constructor.find()) {
            asked.add(constructor.group());
        }
        CHECK.due("members that the document has", asked.size(), 33 + 5 + 1);
        CHECK.due("the face", String.join("; ", visible()), String.join("; ", asked));
        CHECK.due("the class", Modifier.toString(CrossedSheets.class.getModifiers()), "public final");
        CHECK.due("what it extends", CrossedSheets.class.getSuperclass().getSimpleName(), "Object");
        CHECK.due("what it implements", CrossedSheets.class.getInterfaces().length, 0);
    }

    private static String typesOf(String parameters) {
        return parameters.replaceAll("(\\w+) \\w+", "$1").replace(" ", "");
    }

    private static Set<String> visible() {
        Set<String> found = new TreeSet<>();
        for (Method method : CrossedSheets.class.getDeclaredMethods()) {
            String types = parameters(method);
            if (method.getModifiers() == Modifier.PUBLIC) {
                found.add(method.getReturnType() + " " + method.getName() + "(" + types + ")");
            } else if (!Modifier.isPrivate(method.getModifiers())) {
                found.add(method.toString());
            }
        }
        for (Field field : CrossedSheets.class.getDeclaredFields()) {
            if (!Modifier.isPrivate(field.getModifiers())) {
                found.add(Modifier.toString(field.getModifiers()) + " " + field.getType() + " " + field.getName() + " = "
                    + valueOf(field));
            }
        }
        for (Constructor<?> constructor : CrossedSheets.class.getDeclaredConstructors()) {
            found.add(constructor.toString());
        }
        return found;
    }

    private static String parameters(Method method) {
        StringBuilder s = new StringBuilder();
        for (Class<?> type : method.getParameterTypes()) {
            s.append(s.length() == 0 ? "" : ",").append(type);
        }
        return s.toString();
    }

    private static String valueOf(Field field) {
        try {
            return String.valueOf(field.get(null));
        } catch (IllegalAccessException e) {
            return "hidden";
        }
    }

    private static void classesInside() {
        Class<?>[] inside = CrossedSheets.class.getDeclaredClasses();
        CHECK.due("classes in the file", inside.length + 1 <= MOST_CLASSES ? 0 : inside.length + 1, 0);
        Set<String> names = new TreeSet<>();
        for (Method method : CrossedSheets.class.getMethods()) {
            names.add(method.getName());
        }
        for (Class<?> one : inside) {
            boolean isHidden = (one.getModifiers() & (Modifier.PUBLIC | Modifier.PROTECTED)) == 0;
            CHECK.due(one + " is static and not public", isHidden && Modifier.isStatic(one.getModifiers()) ? 1 : 0, 1);
            parts(one, names);
        }
        parts(CrossedSheets.class, names);
    }

    private static void parts(Class<?> one, Set<String> names) {
        int fields = 0;
        for (Field field : one.getDeclaredFields()) {
            boolean isStatic = Modifier.isStatic(field.getModifiers());
            fields += isStatic ? 0 : 1;
            CHECK.due(field + " is final, if static", isStatic && !Modifier.isFinal(field.getModifiers()) ? 1 : 0, 0);
        }
        CHECK.due("fields of " + one, fields <= MOST_FIELDS ? 0 : fields, 0);
        for (Method method : one.getDeclaredMethods()) {
            boolean isFree = method.getModifiers() == Modifier.PUBLIC || !names.contains(method.getName());
            CHECK.due("the name of " + method + " is free", isFree ? 1 : 0, 1);
            CHECK.due("parameters of " + method, method.getParameterCount() <= MOST_PARAMETERS ? 1 : 0, 1);
        }
    }

    private static void methodsAreShort() throws IOException {
        String name = "";
        int lines = 0;
        for (String line : Files.readAllLines(Path.of("src/main/java/CrossedSheets.java"), StandardCharsets.ISO_8859_1)) {
            lines++;
            if (line.matches(" {4}( {4})?\\w[^=;]*\\) \\{")) {
                name = line.trim();
                lines = 1;
            } else if (line.matches(" {4}( {4})?}") && !name.isEmpty()) {
                CHECK.due("lines of " + name, lines <= MOST_LINES ? 0 : lines, 0);
                name = "";
            }
        }
    }

    private static void words() throws IOException {
        String source = Files.readString(Path.of("src/main/java/CrossedSheets.java"), StandardCharsets.ISO_8859_1);
        source = source.replaceAll("(?s)/\\*.*?\\*/|//[^\n]*", "");
        String barred = "\\b(throw|throws|try|catch|synchronized|assert|Object|hashCode|toString|Exception|interface"
            + "|\\w+Exact|double|float|record|import\\s+(?!java\\.util\\.Arrays;)\\S+)\\b|->|::|@";
        Matcher matcher = Pattern.compile(barred).matcher(source);
        CHECK.due("no word that the rules leave out", matcher.find() ? matcher.group() : "", "");
    }

    private static void room() throws ReflectiveOperationException {
        elements = 0;
        measure(new CrossedSheets(), Collections.newSetFromMap(new IdentityHashMap<>()));
        System.out.println("Rules: one object takes " + elements + " fields and elements");
        CHECK.due("an object is small", elements <= MOST_ELEMENTS ? 0 : elements, 0);
    }

    private static void measure(Object thing, Set<Object> seen) throws ReflectiveOperationException {
        if (thing == null || !seen.add(thing)) {
            return;
        }
        if (thing.getClass().isArray()) {
            elements += Array.getLength(thing);
            return;
        }
        for (Field field : thing.getClass().getDeclaredFields()) {
            if (!Modifier.isStatic(field.getModifiers())) {
                elements++;
                try {
                    field.setAccessible(true);
                } catch (InaccessibleObjectException e) {
                    continue;
                }
                if (!field.getType().isPrimitive()) {
                    measure(field.get(thing), seen);
                }
            }
        }
    }

    /** All calls of a run share one room, so that no call may take any of it for good. */
    private static void callsMakeNothing() {
        com.sun.management.ThreadMXBean threads = (com.sun.management.ThreadMXBean) ManagementFactory.getThreadMXBean();
        CrossedSheets x = new CrossedSheets();
        long told = Check.pack("{0:1}[1:");
        long more = Check.pack("2]<2:3>*");
        everything(x, told, more);
        long id = Thread.currentThread().getId();
        long made = Long.MAX_VALUE;
        for (int k = 0; k < 5; k++) {
            long before = threads.getThreadAllocatedBytes(id);
            everything(x, told, more);
            made = Math.min(made, threads.getThreadAllocatedBytes(id) - before);
        }
        CHECK.due("bytes made by calls", made, 0);
    }

    private static long everything(CrossedSheets x, long told, long more) {
        long sum = x.feed(8, told) + x.feed(8, more) + x.feed(1, '2') + x.sheet() + x.fault() + x.print(2);
        sum += x.ink(0, 1) + x.earlier(1, 0, true) + x.mark(0, 2) + x.good(-1) + x.next(1) + x.orders() + x.order(1, 1);
        sum += x.ahead(0, 1) + x.place(0, 0) + x.session(1) + x.text(1, 0) + x.view(1) + x.word(1, 2) + x.word(1, 3);
        sum += x.word(1, 4) + x.idle() + x.apart(0, 1) + x.without(0, 0) + x.see(1) + x.copy() + x.write(1) + x.copy();
        sum += x.times(0, 0) + x.holds() + x.when(0, 0) + x.nearest(0, 0) + x.drop() + x.drop() + x.bar(1, 2, true);
        return sum + x.breaks(1) + x.clean() + x.least() + x.count(6) + x.count(7);
    }
}
