import java.io.IOException;
import java.nio.charset.StandardCharsets;
import java.nio.file.DirectoryStream;
import java.nio.file.Files;
import java.nio.file.Path;
import java.util.ArrayList;
import java.util.List;
import java.util.regex.Matcher;
import java.util.regex.Pattern;

/** Every promise is quoted by tests of its edges, and each answer besides the ordinary one that it names. */
final class EdgesCoverTest {
    private static final Check CHECK = new Check("EdgesCover");
    private static final Pattern QUOTE = Pattern.compile("\\.says\\(\\s*\"([^\"]*)\",\\s*((?:\"[^\"]*\"\\s*\\+?\\s*)+),");
    private static final Pattern PROMISE = Pattern.compile("\n## (Promise \\d+): [^\n]*\n(.*?)(?=\n## )", Pattern.DOTALL);
    private static final Pattern ANSWER = Pattern.compile("\\b(NONE|UNKNOWN|OUTSIDE|NOT|FULL)\\b");

    public static void main(String[] args) throws IOException {
        List<String[]> quotes = quotes();
        Matcher promise = PROMISE.matcher(Files.readString(Path.of("../shared/DOC.md"), StandardCharsets.UTF_8));
        int promises = 0;
        while (promise.find()) {
            promises++;
            String quoted = quotedOf(quotes, promise.group(1));
            CHECK.due(promise.group(1) + " is quoted", quoted.isEmpty() ? 0 : 1, 1);
            Matcher answer = ANSWER.matcher(promise.group(2));
            while (answer.find()) {
                boolean found = Pattern.compile("\\b" + answer.group() + "\\b").matcher(quoted).find();
                CHECK.due(promise.group(1) + " is quoted with " + answer.group(), found ? 1 : 0, 1);
            }
        }
        CHECK.due("promises", promises, 34);
        for (int section = 1; section <= 4; section++) {
            CHECK.due("Terms " + section + " is quoted", quotedOf(quotes, "Terms " + section).isEmpty() ? 0 : 1, 1);
        }
        CHECK.end();
    }

    private static List<String[]> quotes() throws IOException {
        List<String[]> quotes = new ArrayList<>();
        try (DirectoryStream<Path> tests = Files.newDirectoryStream(Path.of("src/test/java"), "EdgesOf*.java")) {
            for (Path test : tests) {
                Matcher quote = QUOTE.matcher(Files.readString(test, StandardCharsets.UTF_8));
                while (quote.find()) {
                    quotes.add(new String[] {quote.group(1), quote.group(2)});
                }
            }
        }
        return quotes;
    }

    private static String quotedOf(List<String[]> quotes, String where) {
        StringBuilder s = new StringBuilder();
        for (String[] quote : quotes) {
            if (quote[0].equals(where)) {
                s.append(quote[1]).append('\n');
            }
        }
        return s.toString();
    }
}
