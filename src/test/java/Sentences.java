import java.io.IOException;
import java.nio.file.Files;
import java.nio.file.Path;

/**
 * Answers under the sentence of the document that they would break with: each sentence is told by the promise that
 * it is tried by and by its own words, which must stand in that promise or under "Terms".
 */
final class Sentences {
    private static final Path DOC = Path.of("../shared/DOC.md");

    private final Check check;
    private final String doc;
    private String label = "";
    private int told = 0;
    private int answers = 0;

    Sentences(String name) {
        check = new Check(name);
        doc = document();
    }

    private static String document() {
        try {
            return Files.exists(DOC) ? blanksAsOne(Files.readString(DOC)) : "";
        } catch (IOException e) {
            return "";
        }
    }

    private static String blanksAsOne(String text) {
        return text.replaceAll("\\s+", " ");
    }

    /** What is due from here on is due by these words of that promise, or of "Terms". */
    void of(int promise, String words) {
        leave();
        label = "promise " + promise + ", \"" + words + "\"";
        told++;
        if (!doc.isEmpty()) {
            String here = section(" ## Promise " + promise + ":") + section(" ## Terms ");
            check.holds(label + ": the document says so", here.contains(blanksAsOne(words)));
        }
    }

    private String section(String heading) {
        int from = doc.indexOf(heading);
        if (from < 0) {
            return "";
        }
        int to = doc.indexOf(" ## ", from + heading.length());
        return doc.substring(from, to < 0 ? doc.length() : to);
    }

    private void leave() {
        if (told > 0 && answers == 0) {
            check.holds(label + ": is tried", false);
        }
        answers = 0;
    }

    void due(String call, long got, long want) {
        answers++;
        check.due(label + ": " + call, got, want);
    }

    void holds(String what, boolean so) {
        due(what, so ? 1 : 0, 1);
    }

    void close() {
        leave();
        check.holds("sentences were told", told > 0);
        System.out.println(told + " sentences");
        check.close();
    }

    /** What a text answers that has a fault at that place, of that code. */
    static int fault(int place, int code) {
        return -2 - (1 + 8 * place + code);
    }

    static void hours(WayMayor x, int n) {
        for (int i = 0; i < n; i++) {
            x.hour();
        }
    }

    /** In that town, by that rule. */
    static WayMayor by(String town, String rule) {
        WayMayor x = Check.inTown(town);
        Check.rule(x, rule);
        x.force(0);
        return x;
    }

    /** All that can be seen of an object without a change, as one text. */
    static String seen(WayMayor x) {
        StringBuilder all = new StringBuilder();
        for (int what = 0; what <= 13; what++) {
            all.append(x.count(what)).append(' ');
        }
        for (int p = 0; p < x.count(2); p++) {
            for (int what = 0; what < 6; what++) {
                all.append(x.person(p, what)).append(' ');
            }
            for (int g = 0; g < x.count(3); g++) {
                all.append(x.before(g, p)).append(' ');
            }
        }
        for (int g = 0; g < x.count(3); g++) {
            for (int what = 0; what < 4; what++) {
                all.append(x.stranger(g, what)).append(' ');
            }
        }
        for (int place = 0; place < x.count(0); place++) {
            all.append(x.streets(place)).append(' ');
        }
        return all.append(x.liars(0)).append(' ').append(x.ruled(0)).toString();
    }
}
