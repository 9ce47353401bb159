import java.io.IOException;
import java.lang.management.ManagementFactory;
import java.lang.reflect.Array;
import java.lang.reflect.Field;
import java.lang.reflect.InaccessibleObjectException;
import java.lang.reflect.Method;
import java.lang.reflect.Modifier;
import java.nio.charset.StandardCharsets;
import java.nio.file.Files;
import java.nio.file.Path;
import java.util.Collections;
import java.util.IdentityHashMap;
import java.util.Set;
import java.util.TreeSet;
import java.util.regex.Matcher;
import java.util.regex.Pattern;

/** The face, the rules of LANGUAGE.md that can be seen from outside, and the room that an object takes. */
final class RulesTest {
    private static final Check CHECK = new Check("Rules");
    private static final int MOST_ELEMENTS = 17000;
    private static final String FACE = "ahead apart bar breaks clean copy count drop earlier fault feed good holds idle ink "
        + "least mark nearest next order orders place print see session sheet text times view when without word write";

    private static int elements;

    public static void main(String[] args) throws IOException, ReflectiveOperationException {
        face();
        words();
        room();
        callsMakeNothing();
        CHECK.end();
    }

    private static void face() {
        Set<String> found = new TreeSet<>();
        for (Method method : CrossedSheets.class.getDeclaredMethods()) {
            if (!Modifier.isPrivate(method.getModifiers())) {
                found.add(method.getName());
            }
        }
        CHECK.due("the public methods", String.join(" ", found), FACE);
        CHECK.due("how many", found.size(), 33);
        for (Class<?> inside : CrossedSheets.class.getDeclaredClasses()) {
            CHECK.due(inside + " is static", Modifier.isStatic(inside.getModifiers()) ? 1 : 0, 1);
            for (Method method : inside.getDeclaredMethods()) {
                CHECK.due("the name " + method.getName() + " is free", found.contains(method.getName()) ? 1 : 0, 0);
            }
        }
        CHECK.due("classes", CrossedSheets.class.getDeclaredClasses().length <= 12 ? 1 : 0, 1);
        int visible = 0;
        for (Field field : CrossedSheets.class.getDeclaredFields()) {
            visible += Modifier.isPrivate(field.getModifiers()) ? 0 : 1;
        }
        CHECK.due("visible constants", visible, 5);
        CHECK.due("constructors", CrossedSheets.class.getConstructors().length, 1);
    }

    private static void words() throws IOException {
        String source = Files.readString(Path.of("src/main/java/CrossedSheets.java"), StandardCharsets.ISO_8859_1);
        source = source.replaceAll("(?s)/\\*.*?\\*/|//[^\n]*", "");
        String barred = "\\b(throw|throws|try|catch|synchronized|assert|Object|hashCode|toString|Exception|interface"
            + "|\\w+Exact|double|float|record|import\\s+(?!java\\.util\\.Arrays;)\\S+)\\b|->|::|@";
        Matcher matcher = Pattern.compile(barred).matcher(source);
        CHECK.due("no word that the rules leave out", matcher.find() ? matcher.group() : "", "");
    }

    private static void room() throws ReflectiveOperationException {
        elements = 0;
        measure(new CrossedSheets(), Collections.newSetFromMap(new IdentityHashMap<>()));
        System.out.println("Rules: one object takes " + elements + " fields and elements");
        CHECK.due("an object is small", elements <= MOST_ELEMENTS ? 0 : elements, 0);
    }

    private static void measure(Object thing, Set<Object> seen) throws ReflectiveOperationException {
        if (thing == null || !seen.add(thing)) {
            return;
        }
        if (thing.getClass().isArray()) {
            elements += Array.getLength(thing);
            return;
        }
        for (Field field : thing.getClass().getDeclaredFields()) {
            if (!Modifier.isStatic(field.getModifiers())) {
                elements++;
                try {
                    field.setAccessible(true);
                } catch (InaccessibleObjectException e) {
                    continue;
                }
                if (!field.getType().isPrimitive()) {
                    measure(field.get(thing), seen);
                }
            }
        }
    }

    /** All calls of a run share one room, so that no call may take any of it for good. */
    private static void callsMakeNothing() {
        com.sun.management.ThreadMXBean threads = (com.sun.management.ThreadMXBean) ManagementFactory.getThreadMXBean();
        CrossedSheets x = new CrossedSheets();
        long told = Check.pack("{0:1}[1:");
        long more = Check.pack("2]<2:3>*");
        everything(x, told, more);
        long id = Thread.currentThread().getId();
        long made = Long.MAX_VALUE;
        for (int k = 0; k < 5; k++) {
            long before = threads.getThreadAllocatedBytes(id);
            everything(x, told, more);
            made = Math.min(made, threads.getThreadAllocatedBytes(id) - before);
        }
        CHECK.due("bytes made by calls", made, 0);
    }

    private static long everything(CrossedSheets x, long told, long more) {
        long sum = x.feed(8, told) + x.feed(8, more) + x.feed(1, '2') + x.sheet() + x.fault() + x.print(2);
        sum += x.ink(0, 1) + x.earlier(1, 0, true) + x.mark(0, 2) + x.good(-1) + x.next(1) + x.orders() + x.order(1, 1);
        sum += x.ahead(0, 1) + x.place(0, 0) + x.session(1) + x.text(1, 0) + x.view(1) + x.word(1, 2) + x.word(1, 3);
        sum += x.word(1, 4) + x.idle() + x.apart(0, 1) + x.without(0, 0) + x.see(1) + x.copy() + x.write(1) + x.copy();
        sum += x.times(0, 0) + x.holds() + x.when(0, 0) + x.nearest(0, 0) + x.drop() + x.drop() + x.bar(1, 2, true);
        return sum + x.breaks(1) + x.clean() + x.least() + x.count(6) + x.count(7);
    }
}
