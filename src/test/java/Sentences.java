import java.io.IOException;
import java.io.UncheckedIOException;
import java.nio.charset.StandardCharsets;
import java.nio.file.Files;
import java.nio.file.Path;
import java.util.function.LongUnaryOperator;

/** Tests of single sentences of the document: each is told with where it stands and with its words. */
final class Sentences {
    private static final Path DOCUMENT = Path.of("../shared/DOC.md");

    private final Check check;
    private final String document;
    private String now = "";

    Sentences(String name) {
        check = new Check(name);
        try {
            document = Files.readString(DOCUMENT, StandardCharsets.UTF_8);
        } catch (IOException e) {
            throw new UncheckedIOException(e);
        }
    }

    /** Where is 'Promise 2', 'Terms', 'Terms 3' or the name of another part; the words must stand just so in it. */
    void says(String where, String words, Runnable test) {
        now = where + " says '" + words + "'";
        boolean found = squeezed(part(where)).contains(squeezed(words));
        check.due(now + ": the document has these words there", found ? 1 : 0, 1);
        test.run();
    }

    void due(String call, long got, long want) {
        check.due(now + ": " + call, got, want);
    }

    void due(String call, String got, String want) {
        check.due(now + ": " + call, got, want);
    }

    /** The same answer for every one of these arguments. */
    void dueForAll(String call, LongUnaryOperator asked, long want, long... arguments) {
        for (long argument : arguments) {
            due(call + " of " + argument, asked.applyAsLong(argument), want);
        }
    }

    /** Tells a text to a new object: its fault and the place, as in '3@6', or '0@-1'. */
    void dueFault(String told, String want) {
        due("the fault of '" + told + "'", Check.fault(new CrossedSheets(), told), want);
    }

    void end() {
        check.end();
    }

    private String part(String where) {
        if (where.startsWith("Terms ")) {
            return cut("\n======== " + where.substring(6) + " ", "\n========", "\nAhead of the calls");
        }
        if (where.equals("Terms")) {
            return cut("\n## Terms\n", "\n========");
        }
        return cut("\n## " + where + (where.startsWith("Promise") ? ":" : "\n"), "\n## ");
    }

    private String cut(String from, String... ends) {
        int start = document.indexOf(from);
        if (start < 0) {
            return "";
        }
        int end = document.length();
        for (String stop : ends) {
            int at = document.indexOf(stop, start + from.length());
            end = at < 0 ? end : Math.min(end, at);
        }
        return document.substring(start, end);
    }

    private static String squeezed(String words) {
        return words.replaceAll("\\s+", " ").trim();
    }
}
