import java.io.IOException;
import java.nio.file.Files;
import java.nio.file.Path;
import java.util.Arrays;
import java.util.regex.Matcher;
import java.util.regex.Pattern;

/** No word of the document's terms and promises is left out by the sentences that the edge tests tell. */
public final class EdgeCoverTest {
    private static final Check CHECK = new Check("EdgeCoverTest");
    private static final Path DOC = Path.of("../shared/DOC.md");
    private static final String[] TESTS = {"EdgeTextTest", "EdgeHourTest", "EdgeAskTest", "EdgeNoteTest"};
    private static final Pattern TOLD =
            Pattern.compile("SAY\\.of\\((\\d+),\\s*((?:\"(?:[^\"\\\\]|\\\\.)*\"[\\s+]*)+)\\)");
    private static final Pattern TEXT = Pattern.compile("\"((?:[^\"\\\\]|\\\\.)*)\"");

    private EdgeCoverTest() {
    }

    public static void main(String[] args) throws IOException {
        if (!Files.exists(DOC)) {
            CHECK.close();
            return;
        }
        String doc = Files.readString(DOC).replaceAll("\\s+", " ");
        boolean[] covered = new boolean[doc.length()];
        Arrays.fill(covered, 0, doc.indexOf(" ## Terms "), true);
        Arrays.fill(covered, doc.indexOf(" ## Not promised "), doc.length(), true);
        int sentences = 0;
        for (String test : TESTS) {
            Matcher told = TOLD.matcher(Files.readString(Path.of("src/test/java/" + test + ".java")));
            while (told.find()) {
                sentences++;
                String words = words(told.group(2));
                cover(doc, covered, " ## Promise " + told.group(1) + ":", words);
                cover(doc, covered, " ## Terms ", words);
            }
        }
        CHECK.holds("many sentences are told", sentences > 100);
        CHECK.due("words that no test tells: " + left(doc, covered), left(doc, covered).length(), 0);
        for (int promise = 1; promise <= 35; promise++) {
            CHECK.holds("promise " + promise + " is in the document", doc.contains(" ## Promise " + promise + ":"));
        }
        CHECK.close();
    }

    private static String words(String texts) {
        StringBuilder all = new StringBuilder();
        Matcher text = TEXT.matcher(texts);
        while (text.find()) {
            all.append(text.group(1));
        }
        return all.toString();
    }

    private static void cover(String doc, boolean[] covered, String heading, String words) {
        int from = doc.indexOf(heading);
        if (from < 0) {
            return;
        }
        int end = doc.indexOf(" ## ", from + heading.length());
        end = end < 0 ? doc.length() : end;
        for (int at = doc.indexOf(words, from); at >= 0 && at < end; at = doc.indexOf(words, at + 1)) {
            Arrays.fill(covered, at, at + words.length(), true);
        }
    }

    /** What is not covered, without headings, heads of methods, the parts' numbers and signs. */
    private static String left(String doc, boolean[] covered) {
        StringBuilder rest = new StringBuilder();
        for (int i = 0; i < covered.length; i++) {
            rest.append(covered[i] ? ' ' : doc.charAt(i));
        }
        return rest.toString().replaceAll("```(text)?", " ").replaceAll("## Promise \\d+: [^`]*", " ")
                .replaceAll("`[^`]*`", " ").replace("## Terms", " ").replaceAll("==== I+\\.", " ")
                .replaceAll("[^A-Za-z0-9]+", " ").trim();
    }
}
