import java.io.IOException;
import java.lang.reflect.Method;
import java.lang.reflect.Modifier;
import java.nio.file.Files;
import java.nio.file.Path;
import java.util.Map;
import java.util.Set;
import java.util.TreeMap;
import java.util.TreeSet;
import java.util.regex.Matcher;
import java.util.regex.Pattern;

/** README.md tells the truth: its run answers what stands behind each call, and its table has every call. */
public final class ReadmeTest {
    private static final Check CHECK = new Check("ReadmeTest");
    private static final Pattern LINE = Pattern.compile("^(?:say\\(x, \"([^\"]*)\"\\);"
            + "|x\\.(\\w+)\\(([-\\d, ]*)\\); +// (-?\\d+): .*)$");
    private static final Pattern ROW = Pattern.compile("^\\| `(\\w+)\\(([\\w, ]*)\\)` \\|.*\\| .*-\\d.* \\|$",
            Pattern.MULTILINE);

    private ReadmeTest() {
    }

    public static void main(String[] args) throws ReflectiveOperationException, IOException {
        String readme = Files.readString(Path.of("README.md"));
        Map<String, Method> face = new TreeMap<>();
        for (Method method : WayMayor.class.getDeclaredMethods()) {
            if (Modifier.isPublic(method.getModifiers())) {
                face.put(method.getName(), method);
            }
        }
        run(readme, face);
        table(readme, face);
        CHECK.close();
    }

    private static void run(String readme, Map<String, Method> face) throws ReflectiveOperationException {
        int from = readme.indexOf("```java\n");
        int to = readme.indexOf("```", from + 8);
        CHECK.holds("there is a run", from >= 0 && to > from);
        WayMayor x = new WayMayor();
        String[] lines = from >= 0 && to > from ? readme.substring(from + 8, to).split("\n") : new String[0];
        for (int i = 1; i < lines.length; i++) {
            Matcher line = LINE.matcher(lines[i]);
            if (lines[i].isEmpty()) {
                continue;
            }
            CHECK.holds("can be read: " + lines[i], line.matches());
            if (!line.matches()) {
                continue;
            }
            if (line.group(1) != null) {
                Check.feed(x, line.group(1));
            } else {
                Object got = face.get(line.group(2)).invoke(x, arguments(line.group(3)));
                CHECK.due(lines[i], (Integer) got, Integer.parseInt(line.group(4)));
            }
        }
    }

    private static Object[] arguments(String told) {
        String[] parts = told.isEmpty() ? new String[0] : told.split(", ");
        Object[] numbers = new Object[parts.length];
        for (int i = 0; i < parts.length; i++) {
            numbers[i] = Integer.parseInt(parts[i]);
        }
        return numbers;
    }

    private static void table(String readme, Map<String, Method> face) {
        Set<String> told = new TreeSet<>();
        Matcher row = ROW.matcher(readme);
        while (row.find()) {
            String name = row.group(1);
            told.add(name);
            int parameters = row.group(2).isEmpty() ? 0 : row.group(2).split(", ").length;
            CHECK.holds(name + " is of the face", face.containsKey(name));
            if (face.containsKey(name)) {
                CHECK.due(name + " takes", parameters, face.get(name).getParameterCount());
            }
        }
        CHECK.holds("every call is told: " + told, told.equals(face.keySet()));
    }
}
