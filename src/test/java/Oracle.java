import java.util.ArrayDeque;
import java.util.ArrayList;
import java.util.Arrays;
import java.util.HashMap;
import java.util.List;
import java.util.Map;
import java.util.TreeSet;
import java.util.function.Predicate;
import java.util.function.ToLongFunction;
import java.util.regex.Matcher;
import java.util.regex.Pattern;

/** The document once more, in the plainest way: slow, with the library and with exceptions. Only for comparing. */
final class Oracle {
    private static final int NONE = -1;

    static final class Fault extends RuntimeException {
        private static final long serialVersionUID = 1L;
        final int number;

        Fault(int place, int code) {
            number = 1 + 8 * place + code;
        }
    }

    record Token(String text, int place) {
        boolean isNumber() {
            return !text.isEmpty() && Character.isDigit(text.charAt(0));
        }
    }

    record Person(int place, int kind, int wrong) { }

    record Stranger(int from, int to, int every) { }

    static final class Told {
        int places;
        int term;
        final TreeSet<Integer> streets = new TreeSet<>();
        final List<Person> people = new ArrayList<>();
        final List<Stranger> strangers = new ArrayList<>();
    }

    interface Ask {
        /** The sum of the first clause that applies, or 0. */
        long worth(Map<String, Long> words);
    }

    static final class World {
        Told told = new Told();
        int hour;
        int chain = NONE;
        int come;
        TreeSet<Integer> shut = new TreeSet<>();
        int[] place = {};
        int[] kind = {};
        int[] wrong = {};
        int[] asked = {};
        int[] total = {};
        int[] chains = {};
        int[] at = {};
        int[][] before = {};

        static World begin(Told told) {
            World w = new World();
            w.told = told;
            w.place = told.people.stream().mapToInt(Person::place).toArray();
            w.kind = told.people.stream().mapToInt(Person::kind).toArray();
            w.wrong = told.people.stream().mapToInt(Person::wrong).toArray();
            w.asked = new int[w.place.length];
            w.total = new int[w.place.length];
            w.chains = new int[w.place.length];
            w.at = new int[told.strangers.size()];
            Arrays.fill(w.at, NONE);
            w.before = new int[w.at.length][w.place.length];
            return w;
        }

        World copy() {
            World w = new World();
            w.told = told;
            w.hour = hour;
            w.chain = chain;
            w.come = come;
            w.shut = new TreeSet<>(shut);
            w.place = place.clone();
            w.kind = kind.clone();
            w.wrong = wrong.clone();
            w.asked = asked.clone();
            w.total = total.clone();
            w.chains = chains.clone();
            w.at = at.clone();
            w.before = new int[before.length][];
            for (int i = 0; i < before.length; i++) {
                w.before[i] = before[i].clone();
            }
            return w;
        }

        boolean open(int a, int b) {
            int street = Math.min(a, b) * 10 + Math.max(a, b);
            return told.streets.contains(street) && !shut.contains(street);
        }

        List<Integer> near(int place) {
            List<Integer> list = new ArrayList<>();
            for (int q = 0; q < told.places; q++) {
                if (open(place, q)) {
                    list.add(q);
                }
            }
            return list;
        }

        /** How far it is to a place, or 99. */
        int far(int from, int to) {
            Map<Integer, Integer> found = new HashMap<>();
            ArrayDeque<Integer> queue = new ArrayDeque<>();
            found.put(from, 0);
            queue.add(from);
            while (!queue.isEmpty()) {
                int here = queue.remove();
                for (int q : near(here)) {
                    if (!found.containsKey(q)) {
                        found.put(q, found.get(here) + 1);
                        queue.add(q);
                    }
                }
            }
            return found.getOrDefault(to, 99);
        }

        int first(int from, int to) {
            for (int q : near(from)) {
                if (far(from, to) != 99 && far(q, to) == far(from, to) - 1) {
                    return q;
                }
            }
            return from;
        }

        /** One hour; whom each stranger asked. */
        int[] pass(Ask rule) {
            int[] whom = new int[at.length];
            Arrays.fill(whom, NONE);
            for (int g = 0; g < at.length; g++) {
                if (at[g] == NONE && hour % told.strangers.get(g).every() == 0) {
                    at[g] = told.strangers.get(g).from();
                }
            }
            for (int g = 0; g < at.length; g++) {
                if (at[g] == NONE) {
                    continue;
                }
                int to = told.strangers.get(g).to();
                if (at[g] == to) {
                    at[g] = NONE;
                    come++;
                    continue;
                }
                int p = chosen(g, rule);
                whom[g] = p;
                List<Integer> near = near(at[g]);
                if (p == NONE) {
                    at[g] = near.isEmpty() ? at[g] : near.get(0);
                } else {
                    asked[p]++;
                    total[p]++;
                    before[g][p]++;
                    if (wrong[p] == 1) {
                        at[g] = near.isEmpty() ? at[g] : near.get(near.size() - 1);
                    } else {
                        at[g] = first(at[g], to);
                    }
                }
            }
            if (hour % told.term == told.term - 1) {
                int most = Arrays.stream(asked).max().orElse(0);
                chain = NONE;
                for (int p = asked.length - 1; p >= 0; p--) {
                    if (asked[p] == most && most > 0) {
                        chain = p;
                    }
                }
                if (chain != NONE) {
                    chains[chain]++;
                }
                Arrays.fill(asked, 0);
            }
            hour++;
            return whom;
        }

        private int chosen(int g, Ask rule) {
            List<Integer> there = new ArrayList<>();
            for (int p = 0; p < place.length; p++) {
                if (place[p] == at[g]) {
                    there.add(p);
                }
            }
            int best = NONE;
            long most = rule == null ? Long.MIN_VALUE : 0;
            for (int p : there) {
                long worth = rule == null ? kind[p] : rule.worth(words(g, p, there.size() - 1));
                if (worth > most) {
                    most = worth;
                    best = p;
                }
            }
            return best;
        }

        private Map<String, Long> words(int g, int p, int others) {
            Map<String, Long> words = new HashMap<>();
            words.put("stranger", (long) g);
            words.put("person", (long) p);
            words.put("kind", (long) kind[p]);
            words.put("asked", (long) asked[p]);
            words.put("before", (long) before[g][p]);
            words.put("others", (long) others);
            words.put("place", (long) at[g]);
            words.put("far", (long) far(at[g], told.strangers.get(g).to()));
            words.put("chain", chain == p ? 1L : 0L);
            words.put("term", (long) (hour % told.term));
            words.put("come", (long) come);
            words.put("hour", (long) hour);
            return words;
        }
    }

    /** Recursive descent that throws the first fault. */
    static final class Parser {
        private static final List<String> WORDS = List.of("stranger", "person", "kind", "asked", "before", "others",
                "place", "far", "chain", "term", "come", "hour");
        private final List<Token> tokens = new ArrayList<>();
        private int next = 0;
        private int parts = 0;

        Parser(String text) {
            Matcher m = Pattern.compile("[a-z]+|[0-9]+|[<>]=|[^ ]", Pattern.DOTALL).matcher(text);
            while (m.find()) {
                tokens.add(new Token(m.group(), m.start()));
            }
            tokens.add(new Token("", text.length()));
        }

        private Token peek() {
            return tokens.get(next);
        }

        private boolean skip(String text) {
            if (peek().text().equals(text)) {
                next++;
                return true;
            }
            return false;
        }

        private Fault fault(int code) {
            return new Fault(peek().place(), code);
        }

        private int number(int least, int most, int unlike) {
            if (!peek().isNumber()) {
                throw fault(0);
            }
            if (peek().text().length() > 5) {
                throw fault(1);
            }
            int n = Integer.parseInt(peek().text());
            if (n < least || n > most || n == unlike) {
                throw fault(1);
            }
            next++;
            return n;
        }

        Told town() {
            Told t = new Told();
            int clauses = 0;
            do {
                String word = peek().text();
                if (!List.of("town", "street", "person", "stranger").contains(word)) {
                    throw fault(0);
                }
                if (++clauses > 40 || word.equals("town") == clauses > 1
                        || word.equals("person") && t.people.size() == 6
                        || word.equals("stranger") && t.strangers.size() == 5) {
                    throw fault(4);
                }
                next++;
                if (word.equals("town")) {
                    t.places = number(2, 8, NONE);
                    t.term = number(1, 30, NONE);
                } else if (word.equals("street")) {
                    int a = number(0, t.places - 1, NONE);
                    int b = number(0, t.places - 1, a);
                    t.streets.add(Math.min(a, b) * 10 + Math.max(a, b));
                } else if (word.equals("person")) {
                    int place = number(0, t.places - 1, NONE);
                    int kind = number(0, 9, NONE);
                    t.people.add(new Person(place, kind, number(0, 1, NONE)));
                } else {
                    int from = number(0, t.places - 1, NONE);
                    int to = number(0, t.places - 1, from);
                    t.strangers.add(new Stranger(from, to, number(1, 20, NONE)));
                }
            } while (skip(";"));
            if (!peek().text().isEmpty()) {
                throw fault(0);
            }
            return t;
        }

        Ask rule() {
            List<Predicate<Map<String, Long>>> tests = new ArrayList<>();
            List<ToLongFunction<Map<String, Long>>> sums = new ArrayList<>();
            do {
                if (!peek().text().equals("ask")) {
                    throw fault(0);
                }
                if (sums.size() == 12) {
                    throw fault(4);
                }
                next++;
                sums.add(sum());
                tests.add(skip("if") ? test(0) : words -> true);
            } while (skip(";"));
            if (!peek().text().isEmpty()) {
                throw fault(0);
            }
            return words -> {
                for (int i = 0; i < sums.size(); i++) {
                    if (tests.get(i).test(words)) {
                        return sums.get(i).applyAsLong(words);
                    }
                }
                return 0;
            };
        }

        private Predicate<Map<String, Long>> test(int depth) {
            Predicate<Map<String, Long>> all = part(depth);
            while (skip("or")) {
                all = all.or(part(depth));
            }
            return all;
        }

        private Predicate<Map<String, Long>> part(int depth) {
            Predicate<Map<String, Long>> all = fact(depth);
            while (skip("and")) {
                all = all.and(fact(depth));
            }
            return all;
        }

        private Predicate<Map<String, Long>> fact(int depth) {
            String text = peek().text();
            if (text.equals("not") || text.equals("[")) {
                if (depth == 10) {
                    throw fault(2);
                }
                next++;
                if (text.equals("not")) {
                    return fact(depth + 1).negate();
                }
                Predicate<Map<String, Long>> inner = test(depth + 1);
                if (!skip("]")) {
                    throw fault(0);
                }
                return inner;
            }
            ToLongFunction<Map<String, Long>> left = sum();
            String sign = peek().text();
            if (!List.of("<", "<=", "=", ">=", ">").contains(sign)) {
                throw fault(0);
            }
            if (++parts > 60) {
                throw fault(3);
            }
            next++;
            ToLongFunction<Map<String, Long>> right = sum();
            return words -> {
                int c = Long.compare(left.applyAsLong(words), right.applyAsLong(words));
                return c == 0 ? sign.contains("=") : c < 0 ? sign.contains("<") : sign.contains(">");
            };
        }

        private ToLongFunction<Map<String, Long>> sum() {
            ToLongFunction<Map<String, Long>> all = product();
            while (List.of("+", "-").contains(peek().text())) {
                boolean plus = tokens.get(next++).text().equals("+");
                ToLongFunction<Map<String, Long>> left = all;
                ToLongFunction<Map<String, Long>> right = product();
                all = w -> plus ? left.applyAsLong(w) + right.applyAsLong(w)
                        : left.applyAsLong(w) - right.applyAsLong(w);
            }
            return all;
        }

        private ToLongFunction<Map<String, Long>> product() {
            ToLongFunction<Map<String, Long>> all = value();
            while (List.of("*", "/", "%").contains(peek().text())) {
                String sign = tokens.get(next++).text();
                ToLongFunction<Map<String, Long>> left = all;
                ToLongFunction<Map<String, Long>> right = value();
                all = w -> {
                    long a = left.applyAsLong(w);
                    long b = right.applyAsLong(w);
                    if (sign.equals("*")) {
                        return a * b;
                    }
                    return b == 0 ? 0 : sign.equals("/") ? a / b : a % b;
                };
            }
            return all;
        }

        private ToLongFunction<Map<String, Long>> value() {
            Token token = peek();
            if (!token.isNumber() && !WORDS.contains(token.text())) {
                throw fault(0);
            }
            if (token.isNumber() && token.text().length() > 5) {
                throw fault(1);
            }
            if (++parts > 60) {
                throw fault(3);
            }
            next++;
            if (token.isNumber()) {
                long n = Long.parseLong(token.text());
                return w -> n;
            }
            return w -> w.get(token.text());
        }
    }

    record Note(int hour, int stranger, int person) { }

    record All(World world, List<World> past, List<Note> notes, int force, int x) { }

    private final StringBuilder tape = new StringBuilder();
    private final List<Ask> rules = new ArrayList<>();
    private final All[] images = new All[4];
    private World w = new World();
    private List<World> past = new ArrayList<>();
    private List<Note> notes = new ArrayList<>();
    private int force = NONE;
    private int x = 0;

    private boolean person(int p) {
        return p >= 0 && p < w.place.length;
    }

    private boolean stranger(int g) {
        return g >= 0 && g < w.at.length;
    }

    private boolean place(int p) {
        return p >= 0 && p < w.told.places;
    }

    private boolean town() {
        return w.told.places > 0;
    }

    private static boolean in(int n, int a, int b) {
        return n >= a && n <= b;
    }

    private Ask inForce() {
        return force == NONE ? null : rules.get(force);
    }

    private World after(World from, int n) {
        World then = from.copy();
        for (int i = 0; i < n; i++) {
            then.pass(inForce());
        }
        return then;
    }

    private void act() {
        past.add(w.copy());
        if (past.size() > 20) {
            past.remove(0);
        }
    }

    int call(String name, int... a) {
        switch (name) {
            case "feed": return feed(a);
            case "end": return end(a[0]);
            case "town": return readTown();
            case "rule": return readRule();
            case "force": return force(a[0]);
            case "person": return personIs(a[0], a[1]);
            case "stranger": return strangerIs(a[0], a[1]);
            case "streets": return place(a[0]) ? w.near(a[0]).stream().mapToInt(q -> 1 << q).sum() : NONE;
            case "before": return stranger(a[0]) && person(a[1]) ? w.before[a[0]][a[1]] : NONE;
            case "hour": return hour();
            case "stand": return stand(a[0], a[1]);
            case "collar": return collar(a[0], a[1]);
            case "shut": return shut(a[0], a[1]);
            case "hunt": return hunt(a[0]);
            case "undo": return undo();
            case "ahead": return ahead(a[0], a[1], a[2]);
            case "mayor": return mayor(a[0]);
            case "pitch": return pitch(a[0], a[1], a[2]);
            case "smile": return smile(a[0], a[1]);
            case "way": return way(a[0], a[1], a[2]);
            case "came": return came(a[0], a[1], a[2], a[3]);
            case "liars": return liars(a[0]);
            case "post": return post(a[0], a[1]);
            case "game": return game(a[0], a[1], a[2], a[3]);
            case "rests": return rests(a[0], a[1], a[2], a[3]);
            case "pence": return pence(a[0], a[1]);
            case "note": return note(a[0], a[1], a[2]);
            case "ruled": return ruled(a[0]);
            case "look": return look(a[0], a[1]);
            case "seed": return seed(a[0]);
            case "markets": return markets(a[0], a[1], a[2], a[3]);
            case "count": return count(a[0]);
            case "image": return image(a[0]);
            case "back": return back(a[0]);
            default: throw new IllegalStateException(name);
        }
    }

    private int feed(int[] a) {
        if (tape.length() > 380) {
            return NONE;
        }
        for (int n : a) {
            for (int k = 3; k >= 0; k--) {
                tape.append((char) (n >> 8 * k & 0xff));
            }
        }
        return tape.length();
    }

    private int end(int n) {
        if (!in(n, 0, tape.length())) {
            return NONE;
        }
        tape.setLength(n);
        return n;
    }

    private int readTown() {
        String text = tape.toString();
        tape.setLength(0);
        try {
            w = World.begin(new Parser(text).town());
        } catch (Fault f) {
            return -2 - f.number;
        }
        past = new ArrayList<>();
        notes = new ArrayList<>();
        return w.place.length;
    }

    private int readRule() {
        if (rules.size() == 6) {
            return NONE;
        }
        String text = tape.toString();
        tape.setLength(0);
        try {
            rules.add(new Parser(text).rule());
        } catch (Fault f) {
            return -2 - f.number;
        }
        return rules.size() - 1;
    }

    private int force(int rule) {
        if (!in(rule, NONE, rules.size() - 1)) {
            return -2;
        }
        int was = force;
        force = rule;
        return was;
    }

    private int personIs(int p, int what) {
        if (!person(p) || !in(what, 0, 5)) {
            return NONE;
        }
        return new int[] {w.place[p], w.kind[p], w.wrong[p], w.asked[p], w.total[p], w.chains[p]}[what];
    }

    private int strangerIs(int g, int what) {
        if (!stranger(g) || !in(what, 0, 3)) {
            return -2;
        }
        Stranger s = w.told.strangers.get(g);
        return new int[] {s.from(), s.to(), s.every(), w.at[g]}[what];
    }

    private int hour() {
        if (!town() || w.hour == 999) {
            return NONE;
        }
        act();
        return (int) Arrays.stream(w.pass(inForce())).filter(p -> p != NONE).count();
    }

    private int stand(int p, int place) {
        if (!person(p) || !place(place) || w.place[p] == place) {
            return NONE;
        }
        act();
        int was = w.place[p];
        w.place[p] = place;
        return was;
    }

    private int collar(int p, int kind) {
        if (!person(p) || !in(kind, 0, 9) || w.kind[p] == kind) {
            return NONE;
        }
        act();
        int was = w.kind[p];
        w.kind[p] = kind;
        return was;
    }

    private int shut(int a, int b) {
        int street = Math.min(a, b) * 10 + Math.max(a, b);
        if (!place(a) || !place(b) || !w.told.streets.contains(street)) {
            return NONE;
        }
        act();
        if (w.shut.remove(street)) {
            return 0;
        }
        w.shut.add(street);
        return 1;
    }

    private int hunt(int g) {
        if (!stranger(g) || w.at[g] == NONE) {
            return NONE;
        }
        act();
        int was = w.at[g];
        w.at[g] = NONE;
        return was;
    }

    private int undo() {
        if (past.isEmpty()) {
            return -2;
        }
        w = past.remove(past.size() - 1);
        return past.size();
    }

    private int ahead(int number, int n, int what) {
        if (!town() || !in(n, 0, 100) || !in(what, 0, 3) || what == 0 && !person(number)
                || what == 1 && !stranger(number)) {
            return -2;
        }
        World then = after(w, n);
        return what == 0 ? then.total[number] : what == 1 ? then.at[number] : what == 2 ? then.come : then.chain;
    }

    private int mayor(int p) {
        if (!person(p)) {
            return NONE;
        }
        for (int n = 0; n < 100; n++) {
            if (after(w, n).chain == p) {
                return w.hour + n;
            }
        }
        return -2;
    }

    private int pitch(int p, int n, int what) {
        if (!person(p) || !in(n, 1, 60) || !in(what, 0, 1)) {
            return NONE;
        }
        int best = -1;
        int most = -1;
        for (int place = w.told.places - 1; place >= 0; place--) {
            World t = w.copy();
            t.place[p] = place;
            int often = after(t, n).total[p] - w.total[p];
            if (often >= most) {
                most = often;
                best = place;
            }
        }
        return what == 0 ? best : most;
    }

    private int smile(int p, int n) {
        if (!person(p) || !in(n, 1, 60)) {
            return NONE;
        }
        for (int kind = 0; kind <= 9; kind++) {
            World t = w.copy();
            t.kind[p] = kind;
            if (after(t, n).chain == p) {
                return kind;
            }
        }
        return -2;
    }

    private int way(int a, int b, int what) {
        if (!place(a) || !place(b) || !in(what, 0, 1)) {
            return NONE;
        }
        int far = w.far(a, b);
        return far == 99 ? -2 : what == 0 ? far : w.first(a, b);
    }

    private int came(int g, int n, int place, int what) {
        if (!stranger(g) || !in(n, 1, 30) || !place(place) || !in(what, 0, 1)) {
            return NONE;
        }
        List<Integer> found = new ArrayList<>();
        for (int from = 0; from < w.told.places; from++) {
            World t = w.copy();
            t.at[g] = from;
            if (after(t, n).at[g] == place) {
                found.add(from);
            }
        }
        return what == 0 ? found.size() : found.isEmpty() ? -2 : found.get(0);
    }

    private boolean notesHold(World begin, Ask rule) {
        for (Note note : notes) {
            World t = begin.copy();
            int[] whom = {};
            for (int i = 0; i <= note.hour(); i++) {
                whom = t.pass(rule);
            }
            if (whom[note.stranger()] != note.person()) {
                return false;
            }
        }
        return true;
    }

    /** Whom a stranger asks in an hour, from the begin on, by a rule and with those people wrong: for notes that can be so. */
    int whom(int n, int g, int rule, int wrongSet) {
        World t = World.begin(w.told);
        for (int p = 0; p < t.wrong.length; p++) {
            t.wrong[p] = wrongSet >> p & 1;
        }
        int[] whom = {};
        for (int i = 0; i <= n; i++) {
            whom = t.pass(rule == NONE ? null : rules.get(rule));
        }
        return whom[g];
    }

    private int liars(int what) {
        if (!town() || !in(what, 0, 2)) {
            return -3;
        }
        List<Integer> sets = new ArrayList<>();
        for (int set = 0; set < 1 << w.place.length; set++) {
            World t = World.begin(w.told);
            for (int p = 0; p < t.wrong.length; p++) {
                t.wrong[p] = set >> p & 1;
            }
            if (notesHold(t, inForce())) {
                sets.add(set);
            }
        }
        if (what == 2) {
            return sets.isEmpty() ? 0 : sets.stream().reduce(-1, (a, b) -> a & b);
        }
        return what == 0 ? sets.size() : sets.isEmpty() ? -2 : sets.get(0);
    }

    private int post(int n, int what) {
        if (!town() || !in(n, 1, 60) || !in(what, 0, 2)) {
            return -2;
        }
        int[] best = {after(w, n).come - w.come, NONE, NONE};
        for (int street : w.told.streets) {
            if (!w.shut.contains(street)) {
                World t = w.copy();
                t.shut.add(street);
                int come = after(t, n).come - w.come;
                if (come > best[0]) {
                    best = new int[] {come, street / 10, street % 10};
                }
            }
        }
        return best[what];
    }

    private int[] play(World from, int one, int other, int turn, int n) {
        if (turn == n) {
            return new int[] {0, NONE};
        }
        int mover = turn % 2 == 0 ? one : other;
        TreeSet<Integer> reach = new TreeSet<>(from.near(from.place[mover]));
        reach.add(from.place[mover]);
        int[] best = null;
        for (int place : reach) {
            World t = from.copy();
            t.place[mover] = place;
            t.pass(inForce());
            int much = t.total[one] - from.total[one] - t.total[other] + from.total[other]
                    + play(t, one, other, turn + 1, n)[0];
            if (best == null || (turn % 2 == 0 ? much > best[0] : much < best[0])) {
                best = new int[] {much, place};
            }
        }
        return best;
    }

    private int game(int one, int other, int n, int what) {
        if (!person(one) || !person(other) || one == other || !in(n, 1, 3) || !in(what, 0, 1)) {
            return -1000;
        }
        return play(w, one, other, 0, n)[what];
    }

    private int[] gains(int one, int other, int a, int b, int n) {
        World t = w.copy();
        t.place[one] = a;
        t.place[other] = b;
        World then = after(t, n);
        return new int[] {then.total[one] - w.total[one], then.total[other] - w.total[other]};
    }

    private int rests(int one, int other, int n, int what) {
        if (!person(one) || !person(other) || one == other || !in(n, 1, 20) || !in(what, 0, 2)) {
            return NONE;
        }
        int[][][] gains = new int[w.told.places][w.told.places][];
        for (int a = 0; a < w.told.places; a++) {
            for (int b = 0; b < w.told.places; b++) {
                gains[a][b] = gains(one, other, a, b, n);
            }
        }
        List<int[]> found = new ArrayList<>();
        for (int a = 0; a < w.told.places; a++) {
            for (int b = 0; b < w.told.places; b++) {
                boolean rests = true;
                for (int q = 0; q < w.told.places; q++) {
                    rests &= gains[q][b][0] <= gains[a][b][0] && gains[a][q][1] <= gains[a][b][1];
                }
                if (rests) {
                    found.add(new int[] {a, b});
                }
            }
        }
        return what == 0 ? found.size() : found.isEmpty() ? -2 : found.get(0)[what - 1];
    }

    private int pence(int much, int person) {
        if (!in(much, 0, 9999) || !person(person)) {
            return NONE;
        }
        int all = Arrays.stream(w.total).sum();
        if (all == 0) {
            return 0;
        }
        int[] part = new int[w.total.length];
        List<Integer> order = new ArrayList<>();
        int left = much;
        for (int p = 0; p < part.length; p++) {
            part[p] = much * w.total[p] / all;
            left -= part[p];
            order.add(p);
        }
        order.sort((p, q) -> Integer.compare(much * w.total[q] % all, much * w.total[p] % all));
        for (int i = 0; i < left; i++) {
            part[order.get(i)]++;
        }
        return part[person];
    }

    private int note(int n, int g, int p) {
        if (n == NONE) {
            notes = new ArrayList<>();
            return 0;
        }
        if (!in(n, 0, 60) || !stranger(g) || p != NONE && !person(p) || notes.size() == 10) {
            return -2;
        }
        notes.add(new Note(n, g, p));
        return notes.size();
    }

    private List<Integer> fitting() {
        List<Integer> found = new ArrayList<>();
        for (int r = NONE; r < rules.size(); r++) {
            if (notesHold(World.begin(w.told), r == NONE ? null : rules.get(r))) {
                found.add(r);
            }
        }
        return found;
    }

    private int ruled(int what) {
        if (!town() || !in(what, 0, 1)) {
            return -3;
        }
        List<Integer> found = fitting();
        return what == 0 ? found.size() : found.isEmpty() ? -2 : found.get(0);
    }

    private int look(int n, int what) {
        if (!town() || !in(n, 0, 60) || !in(what, 0, 1)) {
            return NONE;
        }
        List<Integer> found = fitting();
        int best = -2;
        int fewest = -2;
        for (int g = w.at.length - 1; g >= 0 && !found.isEmpty(); g--) {
            Map<Integer, Integer> alike = new HashMap<>();
            for (int r : found) {
                World t = World.begin(w.told);
                int[] whom = {};
                for (int i = 0; i <= n; i++) {
                    whom = t.pass(r == NONE ? null : rules.get(r));
                }
                alike.merge(whom[g], 1, Integer::sum);
            }
            int most = alike.values().stream().max(Integer::compare).orElse(0);
            if (best == -2 || most <= fewest) {
                best = g;
                fewest = most;
            }
        }
        return what == 0 ? best : fewest;
    }

    private int seed(int number) {
        if (number < 0) {
            return NONE;
        }
        int was = x;
        x = number;
        return was;
    }

    private long drawn;

    private int draw() {
        drawn = (drawn * 1103515245L + 12345L) % 2147483648L;
        return (int) (drawn / 65536);
    }

    private int markets(int m, int n, int p, int what) {
        if (!town() || !in(m, 1, 10) || !in(n, 1, 60) || !in(p, 0, 100) || !in(what, 0, 1)) {
            return NONE;
        }
        drawn = x;
        int come = 0;
        int asked = 0;
        for (int i = 0; i < m; i++) {
            World t = w.copy();
            for (int k = 0; k < n; k++) {
                if (draw() % 100 < p && t.place.length > 0) {
                    int who = draw() % t.place.length;
                    t.place[who] = draw() % t.told.places;
                }
                t.pass(inForce());
            }
            come += t.come - w.come;
            asked += Arrays.stream(t.total).sum() - Arrays.stream(w.total).sum();
        }
        return what == 0 ? come : asked;
    }

    private int count(int what) {
        if (!in(what, 0, 13)) {
            return NONE;
        }
        return new int[] {w.told.places, w.told.term, w.place.length, w.at.length, rules.size(), force, w.hour,
            w.chain, w.come, Arrays.stream(w.total).sum(), notes.size(), past.size(), x, tape.length()}[what];
    }

    private static List<World> copies(List<World> from) {
        List<World> to = new ArrayList<>();
        for (World world : from) {
            to.add(world.copy());
        }
        return to;
    }

    private int image(int k) {
        if (!in(k, 0, 3)) {
            return NONE;
        }
        images[k] = new All(w.copy(), copies(past), new ArrayList<>(notes), force, x);
        return w.hour;
    }

    private int back(int k) {
        if (!in(k, 0, 3) || images[k] == null) {
            return NONE;
        }
        w = images[k].world().copy();
        past = copies(images[k].past());
        notes = new ArrayList<>(images[k].notes());
        force = images[k].force();
        x = images[k].x();
        return w.hour;
    }
}
