import java.lang.reflect.Field;
import java.lang.reflect.Method;
import java.lang.reflect.Modifier;
import java.nio.file.Files;
import java.nio.file.Path;
import java.util.ArrayList;
import java.util.List;
import java.util.TreeSet;
import java.util.regex.Matcher;
import java.util.regex.Pattern;

/** The rules of LANGUAGE.md that can be seen by a look at the source and at the compiled class. */
public final class LanguageTest {
    private static final Check CHECK = new Check("LanguageTest");

    private LanguageTest() {
    }

    public static void main(String[] args) throws Exception {
        String source = Files.readString(Path.of("src/main/java/WayMayor.java"));
        face();
        names();
        words(code(source));
        methods(source);
        CHECK.close();
    }

    private static void face() {
        String[] due = {"feed 5", "end 1", "town 0", "rule 0", "force 1", "person 2", "stranger 2", "streets 1",
            "before 2", "hour 0", "stand 2", "collar 2", "shut 2", "hunt 1", "undo 0", "ahead 3", "mayor 1", "pitch 3",
            "smile 2", "way 3", "came 4", "liars 1", "post 2", "game 4", "rests 4", "pence 2", "note 3", "ruled 1",
            "look 2", "seed 1", "markets 4", "count 1", "image 1", "back 1"};
        TreeSet<String> got = new TreeSet<>();
        for (Method m : WayMayor.class.getDeclaredMethods()) {
            if (Modifier.isPublic(m.getModifiers())) {
                got.add(m.getName() + " " + m.getParameterCount());
                CHECK.holds(m + " answers an int", m.getReturnType() == int.class);
            } else {
                CHECK.holds(m + " is private", Modifier.isPrivate(m.getModifiers()) || m.isSynthetic());
            }
        }
        CHECK.holds("the public methods", got.equals(new TreeSet<>(List.of(due))));
        CHECK.due("constructors", WayMayor.class.getDeclaredConstructors().length, 1);
        CHECK.holds("final", Modifier.isFinal(WayMayor.class.getModifiers()));
        for (Field f : WayMayor.class.getDeclaredFields()) {
            CHECK.holds(f + " is private", Modifier.isPrivate(f.getModifiers()) || f.getName().equals("NONE"));
        }
    }

    private static void names() {
        TreeSet<String> face = new TreeSet<>();
        for (Method m : WayMayor.class.getDeclaredMethods()) {
            if (Modifier.isPublic(m.getModifiers())) {
                face.add(m.getName());
            }
        }
        CHECK.holds("some twelve classes", WayMayor.class.getDeclaredClasses().length <= 12);
        for (Class<?> inner : WayMayor.class.getDeclaredClasses()) {
            CHECK.holds(inner + " is static", Modifier.isStatic(inner.getModifiers()));
            int fields = 0;
            for (Field f : inner.getDeclaredFields()) {
                boolean isStatic = Modifier.isStatic(f.getModifiers());
                fields += isStatic ? 0 : 1;
                CHECK.holds(f + " is final", !isStatic || Modifier.isFinal(f.getModifiers()));
            }
            CHECK.holds(inner + " has some twenty fields", fields <= 20);
            for (Method m : inner.getDeclaredMethods()) {
                CHECK.holds(m + " has no name of the face", !face.contains(m.getName()));
            }
        }
    }

    /** The source without comments, texts and single signs. */
    private static String code(String source) {
        return source.replaceAll("(?s)/\\*.*?\\*/", "").replaceAll("//[^\n]*", "")
                .replaceAll("\"[^\"\n]*\"", "\"\"").replaceAll("'[^'\n]*'", "0");
    }

    private static void words(String code) {
        String[] never = {"throw", "throws", "try", "catch", "finally", "synchronized", "assert", "record", "var",
            "double", "float", "Object", "Exception", "System\\.out", "Random", "Thread", "hashCode", "toString",
            "[A-Za-z]*Exact", "->", "::", "import (?!java\\.util\\.Arrays;)", "static \\{", "package", "protected"};
        for (String word : never) {
            String pattern = Character.isLetter(word.charAt(0)) ? "\\b" + word + (word.matches("\\w+") ? "\\b" : "") : word;
            CHECK.holds("no " + word, !Pattern.compile(pattern).matcher(code).find());
        }
        List<String> calls = new ArrayList<>();
        Matcher m = Pattern.compile("\\b(System|Arrays|Math|Integer|Long)\\.(\\w+)").matcher(code);
        while (m.find()) {
            calls.add(m.group());
        }
        for (String call : calls) {
            CHECK.holds(call, List.of("System.arraycopy", "Arrays.fill", "Math.max", "Math.min").contains(call));
        }
    }

    private static void methods(String source) {
        String[] lines = source.split("\n");
        Pattern head = Pattern.compile("^( {4}| {8})(public |private |static |final )*[\\w\\[\\]]+ ?\\w*\\(([^)]*)\\) \\{$");
        int found = 0;
        for (int i = 0; i < lines.length; i++) {
            Matcher m = head.matcher(lines[i]);
            if (m.matches()) {
                found++;
                int end = i;
                while (!lines[end].equals(m.group(1) + "}")) {
                    end++;
                }
                CHECK.holds(lines[i].trim() + " is short", end - i <= 60);
                CHECK.holds(lines[i].trim() + " takes at most seven", m.group(3).split(",").length <= 7);
            }
        }
        CHECK.holds("methods were found", found > 100);
        for (String line : lines) {
            CHECK.holds("no tab, no long line: " + line, line.indexOf('\t') < 0 && line.length() <= 120);
        }
    }
}
