import java.lang.reflect.Method;
import java.util.Arrays;
import java.util.HashMap;
import java.util.Map;
import java.util.Random;

/** Runs of calls drawn by fixed seeds: the class and the plain model of the document answer alike. */
public final class OracleTest {
    private static final int RUNS = 400;
    private static final int CALLS = 120;
    private static final Check CHECK = new Check("OracleTest");
    private static final Map<String, Method> METHODS = new HashMap<>();
    private static final String[] CALL_NAMES = {"force", "person", "stranger", "streets", "before", "hour", "hour",
        "hour", "hour", "stand", "collar", "shut", "hunt", "undo", "ahead", "mayor", "pitch", "smile", "way", "came",
        "liars", "post", "game", "rests", "pence", "note", "note", "ruled", "look", "seed", "markets", "count",
        "image", "back", "end", "feed"};

    private final Random random;
    private final WayMayor mine = new WayMayor();
    private final Oracle plain = new Oracle();
    private final int run;

    private OracleTest(int run) {
        this.run = run;
        random = new Random(run);
    }

    public static void main(String[] args) throws Exception {
        for (Method m : WayMayor.class.getMethods()) {
            METHODS.put(m.getName(), m);
        }
        int runs = args.length > 0 ? Integer.parseInt(args[0]) : RUNS;
        for (int run = 0; run < runs; run++) {
            OracleTest test = new OracleTest(run);
            if (run % 4 == 3) {
                test.texts();
            } else {
                test.all();
            }
        }
        CHECK.close();
    }

    private int both(String name, int... a) throws Exception {
        Object[] boxed = Arrays.stream(a).boxed().toArray();
        int got = (Integer) METHODS.get(name).invoke(mine, boxed);
        CHECK.due("run " + run + ": " + name + Arrays.toString(a), got, plain.call(name, a));
        return got;
    }

    private int upTo(int n) {
        return random.nextInt(n + 1);
    }

    private void feed(String text) throws Exception {
        both("end", 0);
        for (int i = 0; i < text.length() && i < 400; i += 20) {
            int[] five = new int[5];
            for (int k = 0; k < 20; k++) {
                int sign = i + k < text.length() ? text.charAt(i + k) & 255 : random.nextInt(256);
                five[k / 4] = five[k / 4] << 8 | sign;
            }
            both("feed", five);
        }
        both("end", Math.min(400, text.length()));
    }

    private void all() throws Exception {
        int rules = upTo(6);
        for (int i = 0; i < rules; i++) {
            feed(rule(2));
            both("rule");
        }
        feed(town());
        both("town");
        for (int i = 0; i < CALLS; i++) {
            int dice = random.nextInt(100);
            if (dice == 0) {
                feed(random.nextBoolean() ? town() : spoilt(town()));
                both("town");
            } else if (dice == 1) {
                feed(random.nextBoolean() ? rule(2) : spoilt(rule(2)));
                both("rule");
            } else {
                String name = CALL_NAMES[random.nextInt(CALL_NAMES.length)];
                both(name, strayed(arguments(name)));
            }
        }
        for (int what = 0; what < 14; what++) {
            both("count", what);
        }
    }

    private void texts() throws Exception {
        for (int i = 0; i < 40; i++) {
            boolean isTown = random.nextBoolean();
            String text = isTown ? town() : rule(1 + random.nextInt(6));
            int spoils = upTo(3);
            for (int k = 0; k < spoils; k++) {
                text = spoilt(text);
            }
            if (!isTown && plain.call("count", 4) > 3) {
                return;
            }
            feed(text);
            both(isTown ? "town" : "rule");
        }
    }

    private String spoilt(String text) {
        String signs = ";;  0123456789askifnotorand[]<>=+-*/%towerpkZ!\u00e9\0";
        int at = upTo(text.length());
        String sign = String.valueOf(signs.charAt(random.nextInt(signs.length())));
        switch (random.nextInt(6)) {
            case 0: return text.substring(0, at);
            case 1: return text.substring(0, at) + sign + text.substring(at);
            case 2: return text.substring(0, at) + text.substring(Math.min(text.length(), at + 1));
            case 3: return text.substring(0, at) + sign + text.substring(Math.min(text.length(), at + 1));
            case 4: return text.substring(0, at) + text.substring(upTo(at)) ;
            default: return text + ";" + text.substring(at);
        }
    }

    private String gap() {
        return " ".repeat(random.nextInt(20) == 0 ? upTo(2) : 1);
    }

    private String town() {
        int places = 2 + upTo(6);
        StringBuilder s = new StringBuilder("town " + places + gap() + (1 + (random.nextBoolean() ? upTo(29) : upTo(4))));
        int streets = upTo(places * 2);
        int people = upTo(6);
        int strangers = upTo(5);
        while (streets + people + strangers > 0) {
            int kind = random.nextInt(streets + people + strangers);
            int a = random.nextInt(places);
            int b = (a + 1 + random.nextInt(places - 1)) % places;
            s.append(';');
            if (kind < streets) {
                streets--;
                s.append("street ").append(a).append(gap()).append(b);
            } else if (kind < streets + people) {
                people--;
                s.append("person ").append(a).append(gap()).append(upTo(9)).append(' ').append(upTo(1));
            } else {
                strangers--;
                s.append("stranger ").append(a).append(' ').append(b).append(gap())
                        .append(1 + (random.nextBoolean() ? upTo(4) : upTo(19)));
            }
        }
        return s.length() > 400 ? town() : s.toString();
    }

    private String rule(int size) {
        int clauses = 1 + upTo(random.nextInt(8) == 0 ? 12 : 3);
        StringBuilder s = new StringBuilder();
        for (int i = 0; i < clauses; i++) {
            s.append(i == 0 ? "" : ";").append("ask ").append(sum(size));
            if (random.nextInt(4) != 0) {
                s.append(" if ").append(test(size, 1));
            }
        }
        return s.length() > 400 ? rule(Math.max(1, size - 1)) : s.toString();
    }

    private String sum(int size) {
        StringBuilder s = new StringBuilder(value());
        int more = upTo(size);
        for (int i = 0; i < more; i++) {
            s.append("+-*/%".charAt(random.nextInt(5))).append(value());
        }
        return s.toString();
    }

    private String value() {
        String[] words = {"stranger", "person", "kind", "asked", "before", "others", "place", "far", "chain", "term",
            "come", "hour"};
        if (random.nextInt(3) > 0) {
            return words[random.nextInt(12)];
        }
        return String.valueOf(random.nextInt(10) == 0 ? random.nextInt(100000) : random.nextInt(8));
    }

    private String test(int size, int depth) {
        StringBuilder s = new StringBuilder(fact(size, depth));
        int more = upTo(2);
        for (int i = 0; i < more; i++) {
            s.append(random.nextBoolean() ? " and " : " or ").append(fact(size, depth));
        }
        return s.toString();
    }

    private String fact(int size, int depth) {
        int dice = random.nextInt(size > 3 && depth < 14 ? 5 : 8);
        if (dice == 0) {
            return "not " + fact(size, depth + 1);
        }
        if (dice == 1 && depth < 14) {
            return "[" + (random.nextInt(3) == 0 ? test(size, depth + 1) : fact(size, depth + 1)) + "]";
        }
        String[] signs = {"<", "<=", "=", ">=", ">"};
        return sum(size / 2) + signs[random.nextInt(5)] + sum(size / 2);
    }

    /** Mostly within the limits, now and then just outside them. */
    private int near(int least, int most) {
        return random.nextInt(25) == 0 ? (random.nextBoolean() ? least - 1 : most + 1)
                : least + random.nextInt(Math.max(1, most - least + 1));
    }

    private int person() {
        return near(0, Math.max(0, plain.call("count", 2) - 1));
    }

    private int stranger() {
        return near(0, Math.max(0, plain.call("count", 3) - 1));
    }

    private int place() {
        return near(0, Math.max(0, plain.call("count", 0) - 1));
    }

    private int[] note() {
        int n = random.nextInt(12) == 0 ? -1 : near(0, random.nextInt(4) == 0 ? 60 : 5);
        int g = stranger();
        int p = random.nextInt(3) == 0 ? -1 : person();
        boolean fits = n >= 0 && g >= 0 && g < plain.call("count", 3);
        if (fits && random.nextInt(8) > 0) {
            // Half of them as the text told who is wrong, half as another set would have it.
            int told = 0;
            for (int q = 0; q < plain.call("count", 2); q++) {
                told |= plain.call("person", q, 2) << q;
            }
            p = plain.whom(n, g, plain.call("count", 5), run % 2 == 0 ? told : run % 64);
        }
        return new int[] {n, g, p};
    }

    /** Now and then one of them is far outside. */
    private int[] strayed(int[] a) {
        int[] far = {Integer.MIN_VALUE, Integer.MIN_VALUE + 1, -1000, -3, 64, 1 << 16, 1 << 30, Integer.MAX_VALUE};
        if (a.length > 0 && random.nextInt(30) == 0) {
            a[random.nextInt(a.length)] = far[random.nextInt(far.length)];
        }
        return a;
    }

    private int[] arguments(String name) {
        switch (name) {
            case "feed": return random.ints(5).toArray();
            case "end": return new int[] {near(0, plain.call("count", 13))};
            case "force": return new int[] {near(-1, plain.call("count", 4) - 1)};
            case "person": return new int[] {person(), near(0, 5)};
            case "stranger": return new int[] {stranger(), near(0, 3)};
            case "streets": return new int[] {place()};
            case "before": return new int[] {stranger(), person()};
            case "stand": return new int[] {person(), place()};
            case "collar": return new int[] {person(), near(0, 9)};
            case "shut": return new int[] {place(), place()};
            case "hunt": return new int[] {stranger()};
            case "ahead": return new int[] {random.nextBoolean() ? person() : stranger(), near(0, 100), near(0, 3)};
            case "mayor": return new int[] {person()};
            case "pitch": return new int[] {person(), near(1, 60), near(0, 1)};
            case "smile": return new int[] {person(), near(1, 60)};
            case "way": return new int[] {place(), place(), near(0, 1)};
            case "came": return new int[] {stranger(), near(1, 30), place(), near(0, 1)};
            case "liars": return new int[] {near(0, 2)};
            case "post": return new int[] {near(1, 60), near(0, 2)};
            case "game": return new int[] {person(), person(), near(1, 3), near(0, 1)};
            case "rests": return new int[] {person(), person(), near(1, 20), near(0, 2)};
            case "pence": return new int[] {near(0, 9999), person()};
            case "note": return note();
            case "ruled": return new int[] {near(0, 1)};
            case "look": return new int[] {near(0, 60), near(0, 1)};
            case "seed": return new int[] {random.nextInt(9) == 0 ? -1 : random.nextInt() & Integer.MAX_VALUE};
            case "markets": return new int[] {near(1, 10), near(1, 60), near(0, 100), near(0, 1)};
            case "count": return new int[] {near(0, 13)};
            case "image": case "back": return new int[] {near(0, 3)};
            default: return new int[0];
        }
    }
}
