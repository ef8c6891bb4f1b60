import java.io.IOException;
import java.nio.charset.StandardCharsets;
import java.nio.file.DirectoryStream;
import java.nio.file.Files;
import java.nio.file.Path;
import java.util.regex.Matcher;
import java.util.regex.Pattern;

/** That no sentence of the Terms and of the promises is without a test of its own: each word there stands in one that a test quotes. */
public final class SentencesTest {
    private static final Pattern QUOTE = Pattern.compile("sentence\\(\"(\\w+)\",((?:\\s*\\+?\\s*\"(?:[^\"\\\\]|\\\\.)*\")+)\\);");

    /** What only leads from one sentence to the next. */
    private static final String[] LINKS = {"I. THE TEXT of a MUSEUM (", "; TOKENS: ", "): ", "```text", "```", ", or ", "III. ", "II. ", "IV. ", " and ", "; ", ". ", ": ", ", "};

    public static void main(String[] args) throws IOException {
        String document = Check.document();
        if (document.isEmpty()) {
            System.out.println("../shared/DOC.md isn't here: quotes can't be compared");
            return;
        }
        boolean[] quoted = new boolean[document.length()];
        int quotes = 0;
        try (DirectoryStream<Path> files = Files.newDirectoryStream(Path.of("src/test/java"), "*Test.java")) {
            for (Path file : files) {
                quotes += mark(Files.readString(file, StandardCharsets.UTF_8), document, quoted);
            }
        }
        Check.due("there are quotes", quotes > 100, true);
        part(document, quoted, "## Terms ", "Ahead of the calls `feed`");
        for (int i = 1; i <= 47; i++) {
            part(document, quoted, "## Promise " + i + ": ", i < 47 ? "## Promise " + (i + 1) + ": " : "## Not promised");
        }
        Check.finish();
    }

    private static int mark(String source, String document, boolean[] quoted) {
        Matcher matcher = QUOTE.matcher(source);
        int found = 0;
        while (matcher.find()) {
            String words = matcher.group(2).replaceAll("\"\\s*\\+\\s*\"", "").trim();
            words = words.substring(1, words.length() - 1);
            int[] range = sectionOf(document, matcher.group(1));
            int at = document.indexOf(words, range[0]);
            Check.due("stands in " + matcher.group(1) + ": " + words, at >= range[0] && at + words.length() <= range[1], true);
            for (int i = 0; at >= 0 && i < words.length(); i++) {
                quoted[at + i] = true;
            }
            found++;
        }
        return found;
    }

    private static int[] sectionOf(String document, String section) {
        if (section.matches("[1-9][0-9]*")) {
            int from = document.indexOf("## Promise " + section + ": ");
            int to = document.indexOf("## Promise " + (Integer.parseInt(section) + 1) + ": ");
            return new int[] {from, to < 0 ? document.indexOf("## Not promised") : to};
        }
        int terms = document.indexOf("## Terms ");
        return section.equals("0") ? new int[] {0, terms} : new int[] {terms, document.indexOf("## Promise 1: ")};
    }

    /** All words between two headings stand in quotes, but the heading, the signature and links. */
    private static void part(String document, boolean[] quoted, String from, String to) {
        int start = document.indexOf(from);
        int end = document.indexOf(to, start);
        StringBuilder left = new StringBuilder();
        for (int i = start; i < end; i++) {
            left.append(quoted[i] ? '|' : document.charAt(i));
        }
        String rest = left.toString().replaceAll("^## Terms ", "").replaceAll("^## Promise [0-9]+: [\\w ]+?(?=[`|])", "").replaceAll("^`[^`]*`: ", "");
        for (String link : LINKS) {
            rest = rest.replace(link, "|");
        }
        rest = rest.replaceAll("[| ]+", " ").trim();
        if (!rest.isEmpty()) {
            System.out.println("without a test: " + rest);
        }
        Check.due("words of " + from.trim() + " without a test", rest.length(), 0);
    }
}
