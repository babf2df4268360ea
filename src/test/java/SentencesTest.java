import java.io.IOException;
import java.nio.file.DirectoryStream;
import java.nio.file.Files;
import java.nio.file.Path;
import java.util.TreeSet;
import java.util.regex.Matcher;
import java.util.regex.Pattern;

/** The tests quote the sentences they are about: each quotation stands in the document, and they leave none of its sentences out. */
public final class SentencesTest {
    private static final Pattern QUOTATION = Pattern.compile("Check\\.sentence\\(((?:\\s*\\+?\\s*\"[^\"]*\")+)\\);");
    private static final Pattern STRING = Pattern.compile("\"([^\"]*)\"");

    private static TreeSet<String> quotations() throws IOException {
        TreeSet<String> found = new TreeSet<>();
        try (DirectoryStream<Path> tests = Files.newDirectoryStream(Path.of("src/test/java"), "*BoundsTest.java")) {
            for (Path test : tests) {
                Matcher quotation = QUOTATION.matcher(Files.readString(test));
                while (quotation.find()) {
                    StringBuilder words = new StringBuilder();
                    Matcher string = STRING.matcher(quotation.group(1));
                    while (string.find()) {
                        words.append(string.group(1));
                    }
                    found.add(words.toString());
                }
            }
        }
        return found;
    }

    /** The Terms and the promises, without headings and what else is no sentence, with single spaces. */
    private static String sentences() throws IOException {
        String document = Files.readString(Path.of("../shared/DOC.md"));
        int from = document.indexOf("## Terms");
        int to = document.indexOf("## Not promised");
        return document.substring(from, to).replaceAll("(?m)^#.*$", "").replaceAll("(?m)^```.*$", "").replaceAll("`[^`]*`:", "")
            .replace("The ops:", "").replaceAll("\\s+", " ");
    }

    public static void main(String[] args) throws IOException {
        String text = sentences();
        StringBuilder left = new StringBuilder(text);
        for (String words : quotations()) {
            int at = text.indexOf(words);
            Check.due("the document says just once: " + words, at >= 0 && text.indexOf(words, at + 1) < 0, true);
            for (int i = at; at >= 0 && i < at + words.length(); i++) {
                left.setCharAt(i, '.');
            }
        }
        for (String words : left.toString().split("\\.\\.+")) {
            Check.due("a test quotes: " + words, words.matches("[\\s.;:,]*"), true);
        }
        Check.finish();
    }
}
