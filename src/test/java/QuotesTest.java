import java.io.IOException;
import java.nio.file.DirectoryStream;
import java.nio.file.Files;
import java.nio.file.Path;
import java.util.TreeSet;
import java.util.regex.Matcher;
import java.util.regex.Pattern;

/** The tests of edges quote the sentence that they are for: each quote stands in the document; no promise lacks one. */
public final class QuotesTest {
    private static final Check CHECK = new Check("QuotesTest");
    private static final Pattern COMMENT = Pattern.compile("/\\*\\*(.*?)\\*/", Pattern.DOTALL);
    private static final Pattern QUOTE = Pattern.compile("\"([^\"]+)\"");
    private static final Pattern LABEL = Pattern.compile("\"(\\d+) [^\"]*\"|\"(\\d+)\"");

    public static void main(String[] args) throws IOException {
        String document = plain(Files.readString(Path.of("../shared/DOC.md")));
        TreeSet<Integer> labels = new TreeSet<>();
        try (DirectoryStream<Path> tests = Files.newDirectoryStream(Path.of("src/test/java"), "*Test.java")) {
            for (Path test : tests) {
                if (test.getFileName().toString().startsWith("Edge")) {
                    String source = Files.readString(test);
                    quotes(test.getFileName().toString(), source, document);
                    addLabels(source, labels);
                }
            }
        }
        for (int promise = 1; promise <= 43; promise++) {
            CHECK.due("promise " + promise + " is told by a test of edges", labels.contains(promise), true);
        }
        CHECK.end();
    }

    private static void quotes(String name, String source, String document) {
        Matcher comments = COMMENT.matcher(source);
        while (comments.find()) {
            Matcher quotes = QUOTE.matcher(plain(comments.group(1).replaceAll("\\n\\s*\\*", "\n")));
            while (quotes.find()) {
                for (String part : quotes.group(1).split(" ?\\.\\.\\. ?")) {
                    CHECK.due(name + ": \"" + part + "\" stands in the document", document.contains(part), true);
                }
            }
        }
    }

    private static void addLabels(String source, TreeSet<Integer> labels) {
        Matcher found = LABEL.matcher(source);
        while (found.find()) {
            String number = found.group(1) == null ? found.group(2) : found.group(1);
            if (number.length() <= 2) {
                labels.add(Integer.parseInt(number));
            }
        }
    }

    private static String plain(String text) {
        return text.replaceAll("\\s+", " ").trim();
    }
}
