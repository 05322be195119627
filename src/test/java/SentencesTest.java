import java.io.IOException;
import java.nio.file.Files;
import java.nio.file.Path;
import java.util.BitSet;
import java.util.regex.Matcher;
import java.util.regex.Pattern;

/**
 * No word of "Terms" and of the promises is left out: each is quoted by a test of its promise. Whether
 * a test would fail if its sentence were broken is not seen here.
 */
public final class SentencesTest {
    private static final Path DOCUMENT = Path.of("../shared/DOC.md");
    private static final int PROMISES = 18;
    private static final Pattern QUOTE = Pattern.compile("Due\\.sentence\\(\\s*\"([^\"]*)\"");
    private static final Pattern WORD = Pattern.compile("[A-Za-z0-9]+");

    private final String name;
    private final String text;
    private final BitSet quoted = new BitSet();

    private SentencesTest(String name, String text) {
        this.name = name;
        this.text = text;
    }

    public static void main(String[] args) throws IOException {
        if (!Files.exists(DOCUMENT)) {
            System.out.println("there is no " + DOCUMENT + " to compare with");
            return;
        }
        String document = Files.readString(DOCUMENT);
        SentencesTest terms = new SentencesTest("Terms", section(document, "Terms"));
        for (int promise = 1; promise <= PROMISES; promise++) {
            SentencesTest own = new SentencesTest("Promise " + promise, section(document, "Promise " + promise + ":"));
            String test = String.format("src/test/java/Promise%02dTest.java", promise);
            Matcher quote = QUOTE.matcher(Files.readString(Path.of(test)));
            while (quote.find()) {
                for (String words : quote.group(1).split(" \\.\\.\\. ")) {
                    Due.is(test + ": the document says '" + words + "'", document.contains(words), true);
                    own.mark(words);
                    terms.mark(words);
                }
            }
            own.allIsQuoted();
        }
        terms.allIsQuoted();
        Due.end();
    }

    /** A section without its heading and without the signature that a promise begins with. */
    private static String section(String document, String heading) {
        int start = document.indexOf("## " + heading);
        if (start < 0) {
            Due.is("the document has a section '" + heading + "'", false, true);
            return "";
        }
        int body = document.indexOf('\n', start);
        int end = document.indexOf("\n## ", body);
        return document.substring(body, end < 0 ? document.length() : end).replaceAll("`[^`]*`:", "");
    }

    private void mark(String words) {
        Matcher found = Pattern.compile("(?<!\\w)" + Pattern.quote(words) + "(?!\\w)").matcher(text);
        while (found.find()) {
            quoted.set(found.start(), found.end());
        }
    }

    private void allIsQuoted() {
        Matcher word = WORD.matcher(text);
        while (word.find()) {
            String around = text.substring(word.start(), Math.min(text.length(), word.end() + 20));
            Due.is(name + ": a test quotes '" + around.trim() + "'", quoted.get(word.start()), true);
        }
    }
}
