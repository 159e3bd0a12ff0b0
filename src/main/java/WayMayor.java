import java.util.Arrays;

/**
 * A town in which whoever is asked the way most is the mayor: told in a language, lived hour by hour,
 * and asked what would come of it. DOC.md says each promise; README.md says how to use the class.
 */
public final class WayMayor {
    public static final int NONE = -1;

    private static final int NO_SUCH = -2;
    private static final int NO_ANSWER = -3;
    private static final int NO_GAME = -1000;

    private static final int MAX_PLACES = 8;
    private static final int MAX_TERM = 30;
    private static final int MAX_PEOPLE = 6;
    private static final int MAX_KIND = 9;
    private static final int MAX_STRANGERS = 5;
    private static final int MAX_EVERY = 20;
    private static final int MAX_RULES = 6;
    private static final int MAX_NOTES = 10;
    private static final int MAX_NOTE_HOUR = 60;
    private static final int MAX_ACTS = 20;
    private static final int MAX_IMAGES = 4;
    private static final int MAX_HOUR = 999;
    private static final int MAX_AHEAD = 100;
    private static final int MAX_LONG_RUN = 60;
    private static final int MAX_CAME = 30;
    private static final int MAX_RESTS = 20;
    private static final int MAX_TURNS = 3;
    private static final int MAX_TIMES = 10;
    private static final int MAX_PENCE = 9999;
    private static final int NO_WAY = 99;

    private static final int TAPE_BYTES = 400;
    private static final int FEED_BYTES = 20;
    private static final int MAX_DIGITS = 5;
    private static final int TOWN_CLAUSES = 40;
    private static final int RULE_CLAUSES = 12;
    private static final int MAX_DEPTH = 10;
    private static final int MAX_PARTS = 60;

    private static final int CANT_STAND = 0;
    private static final int NOT_AS_TOLD = 1;
    private static final int TOO_DEEP = 2;
    private static final int PART_TOO_MANY = 3;
    private static final int CLAUSE_TOO_MANY = 4;

    private final Tape tape;
    private final TownReader townReader;
    private final RuleReader ruleReader;
    private final Rule[] rules;
    private int ruleCount;
    private Rule blankRule;
    private final Scene now;
    private final Scene[] images;
    private final Clock clock;
    private final Outlook outlook;
    private final History history;

    public WayMayor() {
        Tape emptyTape = new Tape();
        Scene begin = new Scene();
        Clock freshClock = new Clock();
        tape = emptyTape;
        townReader = new TownReader(emptyTape);
        ruleReader = new RuleReader(emptyTape);
        rules = new Rule[MAX_RULES];
        ruleCount = 0;
        blankRule = new Rule();
        now = begin;
        images = new Scene[MAX_IMAGES];
        clock = freshClock;
        outlook = new Outlook(begin, freshClock);
        history = new History(begin, freshClock);
    }

    // ---- texts

    public int feed(int a, int b, int c, int d, int e) {
        if (tape.length + FEED_BYTES > TAPE_BYTES) {
            return NONE;
        }
        tape.add(a);
        tape.add(b);
        tape.add(c);
        tape.add(d);
        tape.add(e);
        return tape.length;
    }

    public int end(int n) {
        if (n < 0 || n > tape.length) {
            return NONE;
        }
        tape.length = n;
        return n;
    }

    public int town() {
        Town told = townReader.read();
        tape.length = 0;
        if (told == null) {
            return NO_SUCH - tape.fault;
        }
        now.move(told);
        return told.people;
    }

    public int rule() {
        if (ruleCount >= MAX_RULES) {
            return NONE;
        }
        boolean stands = ruleReader.read(blankRule);
        tape.length = 0;
        if (!stands) {
            return NO_SUCH - tape.fault;
        }
        // A rule that has a fault leaves its rows to the next one; one that stands keeps them.
        rules[ruleCount] = blankRule;
        blankRule = new Rule();
        ruleCount++;
        return ruleCount - 1;
    }

    public int force(int rule) {
        if (rule < NONE || rule >= ruleCount) {
            return NO_SUCH;
        }
        int was = now.force;
        now.force = rule;
        return was;
    }

    // ---- what is there

    public int person(int person, int what) {
        if (!isPerson(person)) {
            return NONE;
        }
        switch (what) {
            case 0: return now.state.place[person];
            case 1: return now.state.kind[person];
            case 2: return now.town.wrong >> person & 1;
            case 3: return now.state.asked[person];
            case 4: return now.state.total[person];
            case 5: return now.state.chains[person];
            default: return NONE;
        }
    }

    public int stranger(int stranger, int what) {
        if (!isStranger(stranger)) {
            return NO_SUCH;
        }
        switch (what) {
            case 0: return now.town.from[stranger];
            case 1: return now.town.to[stranger];
            case 2: return now.town.every[stranger];
            case 3: return now.state.at[stranger];
            default: return NO_SUCH;
        }
    }

    public int streets(int place) {
        return isPlace(place) ? Ways.neighbours(now.state.open, place) : NONE;
    }

    public int before(int stranger, int person) {
        if (!isStranger(stranger) || !isPerson(person)) {
            return NONE;
        }
        return now.state.before[stranger * MAX_PEOPLE + person];
    }

    // ---- acts

    public int hour() {
        if (!hasTown() || now.state.hour >= MAX_HOUR) {
            return NONE;
        }
        now.past.push(now.state);
        windClock();
        return clock.pass(now.state);
    }

    public int stand(int person, int place) {
        if (!isPerson(person) || !isPlace(place) || now.state.place[person] == place) {
            return NONE;
        }
        now.past.push(now.state);
        int was = now.state.place[person];
        now.state.place[person] = place;
        return was;
    }

    public int collar(int person, int kind) {
        if (!isPerson(person) || !within(kind, 0, MAX_KIND) || now.state.kind[person] == kind) {
            return NONE;
        }
        now.past.push(now.state);
        int was = now.state.kind[person];
        now.state.kind[person] = kind;
        return was;
    }

    public int shut(int one, int other) {
        if (!isPlace(one) || !isPlace(other)) {
            return NONE;
        }
        long street = Ways.street(one, other);
        if ((now.town.streets & street) == 0) {
            return NONE;
        }
        now.past.push(now.state);
        now.state.open ^= street;
        return (now.state.open & street) == 0 ? 1 : 0;
    }

    public int hunt(int stranger) {
        if (!isStranger(stranger) || now.state.at[stranger] == NONE) {
            return NONE;
        }
        now.past.push(now.state);
        int was = now.state.at[stranger];
        now.state.at[stranger] = NONE;
        return was;
    }

    public int undo() {
        if (now.past.size == 0) {
            return NO_SUCH;
        }
        now.past.pop(now.state);
        return now.past.size;
    }

    // ---- what would come

    public int ahead(int number, int n, int what) {
        boolean numberFits = what == 0 ? isPerson(number) : what != 1 || isStranger(number);
        if (!hasTown() || !within(n, 0, MAX_AHEAD) || !within(what, 0, 3) || !numberFits) {
            return NO_SUCH;
        }
        windClock();
        State then = outlook.after(n);
        switch (what) {
            case 0: return then.total[number];
            case 1: return then.at[number];
            case 2: return then.come;
            default: return then.chain;
        }
    }

    public int mayor(int person) {
        if (!isPerson(person)) {
            return NONE;
        }
        windClock();
        return outlook.firstChain(person);
    }

    public int pitch(int person, int n, int what) {
        if (!isPerson(person) || !within(n, 1, MAX_LONG_RUN) || !within(what, 0, 1)) {
            return NONE;
        }
        windClock();
        return outlook.bestPitch(person, n, what);
    }

    public int smile(int person, int n) {
        if (!isPerson(person) || !within(n, 1, MAX_LONG_RUN)) {
            return NONE;
        }
        windClock();
        return outlook.leastSmile(person, n);
    }

    public int way(int one, int other, int what) {
        if (!isPlace(one) || !isPlace(other) || !within(what, 0, 1)) {
            return NONE;
        }
        clock.ways.follow(now.state.open);
        int far = clock.ways.far(one, other);
        if (far == NO_WAY) {
            return NO_SUCH;
        }
        return what == 0 ? far : clock.ways.step(one, other);
    }

    public int came(int stranger, int n, int place, int what) {
        if (!isStranger(stranger) || !within(n, 1, MAX_CAME) || !isPlace(place) || !within(what, 0, 1)) {
            return NONE;
        }
        windClock();
        return outlook.cameFrom(stranger, n, place, what);
    }

    public int post(int n, int what) {
        if (!hasTown() || !within(n, 1, MAX_LONG_RUN) || !within(what, 0, 2)) {
            return NO_SUCH;
        }
        windClock();
        return outlook.bestShut(n, what);
    }

    public int game(int one, int other, int n, int what) {
        boolean two = isPerson(one) && isPerson(other) && one != other;
        if (!two || !within(n, 1, MAX_TURNS) || !within(what, 0, 1)) {
            return NO_GAME;
        }
        windClock();
        return outlook.duel(one, other, n, what);
    }

    public int rests(int one, int other, int n, int what) {
        boolean two = isPerson(one) && isPerson(other) && one != other;
        if (!two || !within(n, 1, MAX_RESTS) || !within(what, 0, 2)) {
            return NONE;
        }
        windClock();
        return outlook.stableTwos(one, other, n, what);
    }

    public int pence(int much, int person) {
        if (!within(much, 0, MAX_PENCE) || !isPerson(person)) {
            return NONE;
        }
        return now.share(much, person);
    }

    public int markets(int m, int n, int p, int what) {
        boolean fits = within(m, 1, MAX_TIMES) && within(n, 1, MAX_LONG_RUN) && within(p, 0, 100);
        if (!hasTown() || !fits || !within(what, 0, 1)) {
            return NONE;
        }
        windClock();
        return outlook.drawn(m, n, p, what);
    }

    // ---- notes

    public int note(int n, int stranger, int person) {
        if (n == NONE) {
            now.notes = 0;
            return 0;
        }
        boolean told = isStranger(stranger) && (person == NONE || isPerson(person));
        if (!within(n, 0, MAX_NOTE_HOUR) || !told || now.notes >= MAX_NOTES) {
            return NO_SUCH;
        }
        now.addNote(n, stranger, person);
        return now.notes;
    }

    public int liars(int what) {
        if (!hasTown() || !within(what, 0, 2)) {
            return NO_ANSWER;
        }
        return history.wrongSets(ruleNumbered(now.force), what);
    }

    public int ruled(int what) {
        if (!hasTown() || !within(what, 0, 1)) {
            return NO_ANSWER;
        }
        return history.rulesThatFit(rules, ruleCount, what);
    }

    public int look(int n, int what) {
        if (!hasTown() || !within(n, 0, MAX_NOTE_HOUR) || !within(what, 0, 1)) {
            return NONE;
        }
        return history.bestLook(rules, ruleCount, n, what);
    }

    // ---- the rest

    public int seed(int x) {
        if (x < 0) {
            return NONE;
        }
        int was = now.x;
        now.x = x;
        return was;
    }

    public int count(int what) {
        switch (what) {
            case 0: return now.town.places;
            case 1: return now.town.term;
            case 2: return now.town.people;
            case 3: return now.town.strangers;
            case 4: return ruleCount;
            case 5: return now.force;
            case 6: return now.state.hour;
            case 7: return now.state.chain;
            case 8: return now.state.come;
            case 9: return now.state.askedInAll();
            case 10: return now.notes;
            case 11: return now.past.size;
            case 12: return now.x;
            case 13: return tape.length;
            default: return NONE;
        }
    }

    public int image(int k) {
        if (!within(k, 0, MAX_IMAGES - 1)) {
            return NONE;
        }
        Scene kept = images[k];
        if (kept == null) {
            kept = new Scene();
            images[k] = kept;
        }
        kept.copyFrom(now);
        return now.state.hour;
    }

    public int back(int k) {
        if (!within(k, 0, MAX_IMAGES - 1)) {
            return NONE;
        }
        Scene kept = images[k];
        if (kept == null) {
            return NONE;
        }
        now.copyFrom(kept);
        return now.state.hour;
    }

    private boolean hasTown() {
        return now.town.places > 0;
    }

    private boolean isPlace(int place) {
        return place >= 0 && place < now.town.places;
    }

    private boolean isPerson(int person) {
        return person >= 0 && person < now.town.people;
    }

    private boolean isStranger(int stranger) {
        return stranger >= 0 && stranger < now.town.strangers;
    }

    private static boolean within(int number, int least, int most) {
        return number >= least && number <= most;
    }

    private Rule ruleNumbered(int number) {
        return number >= 0 && number < ruleCount ? rules[number] : null;
    }

    private void windClock() {
        clock.wind(now.town, ruleNumbered(now.force), now.town.wrong);
    }

    /** The bytes that were fed, read piece by piece: a word, a number or a sign. The first fault stays. */
    private static final class Tape {
        static final int END = 0;
        static final int WORD = 1;
        static final int NUMBER = 2;
        static final int SIGN = 3;
        /** Added to < or > where = stands right behind it. */
        static final int OR_EQUAL = 256;

        final int[] bytes = new int[TAPE_BYTES];
        int length;
        int kind;
        int taken;
        int fault;
        private int start;
        private int behind;

        void add(int number) {
            for (int shift = 24; shift >= 0; shift -= 8) {
                if (length < bytes.length) {
                    bytes[length] = number >>> shift & 255;
                    length++;
                }
            }
        }

        void open() {
            fault = 0;
            behind = 0;
            advance();
        }

        void advance() {
            start = behind;
            while (start < length && bytes[start] == ' ') {
                start++;
            }
            behind = start;
            kind = kindAt(start);
            if (kind == SIGN) {
                behind = start + (joinsEqual() ? 2 : 1);
                return;
            }
            while (kind != END && behind < length && kindAt(behind) == kind) {
                behind++;
            }
        }

        private int kindAt(int i) {
            if (i >= length) {
                return END;
            }
            int sign = bytes[i];
            if (sign >= 'a' && sign <= 'z') {
                return WORD;
            }
            return sign >= '0' && sign <= '9' ? NUMBER : SIGN;
        }

        private boolean joinsEqual() {
            boolean compares = bytes[start] == '<' || bytes[start] == '>';
            return compares && start + 1 < length && bytes[start + 1] == '=';
        }

        /** The sign, if it is one of those; else NONE. */
        int signAmong(String signs) {
            if (kind != SIGN || signs.indexOf((char) bytes[start]) < 0) {
                return NONE;
            }
            return bytes[start] + (behind - start == 2 ? OR_EQUAL : 0);
        }

        /** Which of the names, each told with a blank behind it, the word is; else NONE. */
        int wordAmong(String names) {
            if (kind != WORD) {
                return NONE;
            }
            int which = 0;
            int i = start;
            boolean alike = true;
            for (int k = 0; k < names.length(); k++) {
                char sign = names.charAt(k);
                if (sign != ' ') {
                    alike = alike && i < behind && bytes[i] == sign;
                    i++;
                } else if (alike && i == behind) {
                    return which;
                } else {
                    which++;
                    i = start;
                    alike = true;
                }
            }
            return NONE;
        }

        /** The number; NONE if it is none, or has more digits than a number may. */
        int numberHere() {
            if (kind != NUMBER || behind - start > MAX_DIGITS) {
                return NONE;
            }
            int number = 0;
            for (int i = start; i < behind; i++) {
                number = number * 10 + (bytes[i] - '0');
            }
            return number;
        }

        boolean take(int least, int most, int unlike) {
            if (kind != NUMBER) {
                return refuse(CANT_STAND);
            }
            int number = numberHere();
            if (number < least || number > most || number == unlike) {
                return refuse(NOT_AS_TOLD);
            }
            taken = number;
            advance();
            return true;
        }

        /** Behind a clause: does another one follow? Anything but that or the end is a fault. */
        boolean clauseFollows() {
            if (kind == END) {
                return false;
            }
            if (signAmong(";") == NONE) {
                return refuse(CANT_STAND);
            }
            advance();
            return true;
        }

        boolean refuse(int code) {
            if (fault == 0) {
                fault = 1 + 8 * start + code;
            }
            return false;
        }
    }

    /** What a text told of a town; it does not change any more. Without places: there is no town. */
    private static final class Town {
        int places;
        int term;
        int people;
        int strangers;
        long streets;
        int wrong;
        final int[] place = new int[MAX_PEOPLE];
        final int[] kind = new int[MAX_PEOPLE];
        final int[] from = new int[MAX_STRANGERS];
        final int[] to = new int[MAX_STRANGERS];
        final int[] every = new int[MAX_STRANGERS];
    }

    private static final class TownReader {
        private static final String CLAUSES = "town street person stranger ";
        private static final int TOWN = 0;
        private static final int STREET = 1;
        private static final int PERSON = 2;

        private final Tape tape;

        TownReader(Tape tape) {
            this.tape = tape;
        }

        /** The town that the tape tells; null if there is a fault. */
        Town read() {
            Town told = new Town();
            tape.open();
            boolean more = true;
            for (int n = 0; more && n <= TOWN_CLAUSES; n++) {
                more = clause(told, n) && tape.clauseFollows();
            }
            return tape.fault == 0 ? told : null;
        }

        private boolean clause(Town told, int n) {
            int word = tape.wordAmong(CLAUSES);
            if (word == NONE) {
                return tape.refuse(CANT_STAND);
            }
            boolean inPlace = (n == 0) == (word == TOWN);
            if (n >= TOWN_CLAUSES || !inPlace || isFull(told, word)) {
                return tape.refuse(CLAUSE_TOO_MANY);
            }
            tape.advance();
            switch (word) {
                case TOWN: return tellSize(told);
                case STREET: return tellStreet(told);
                case PERSON: return tellPerson(told);
                default: return tellStranger(told);
            }
        }

        private static boolean isFull(Town told, int word) {
            if (word == TOWN || word == STREET) {
                return false;
            }
            return word == PERSON ? told.people >= MAX_PEOPLE : told.strangers >= MAX_STRANGERS;
        }

        private boolean tellSize(Town told) {
            if (!tape.take(2, MAX_PLACES, NONE)) {
                return false;
            }
            told.places = tape.taken;
            if (!tape.take(1, MAX_TERM, NONE)) {
                return false;
            }
            told.term = tape.taken;
            return true;
        }

        private boolean tellStreet(Town told) {
            if (!tape.take(0, told.places - 1, NONE)) {
                return false;
            }
            int one = tape.taken;
            if (!tape.take(0, told.places - 1, one)) {
                return false;
            }
            told.streets |= Ways.street(one, tape.taken);
            return true;
        }

        private boolean tellPerson(Town told) {
            int person = told.people;
            if (!tape.take(0, told.places - 1, NONE)) {
                return false;
            }
            told.place[person] = tape.taken;
            if (!tape.take(0, MAX_KIND, NONE)) {
                return false;
            }
            told.kind[person] = tape.taken;
            if (!tape.take(0, 1, NONE)) {
                return false;
            }
            told.wrong |= tape.taken << person;
            told.people++;
            return true;
        }

        private boolean tellStranger(Town told) {
            int stranger = told.strangers;
            if (!tape.take(0, told.places - 1, NONE)) {
                return false;
            }
            int from = tape.taken;
            told.from[stranger] = from;
            if (!tape.take(0, told.places - 1, from)) {
                return false;
            }
            told.to[stranger] = tape.taken;
            if (!tape.take(1, MAX_EVERY, NONE)) {
                return false;
            }
            told.every[stranger] = tape.taken;
            told.strangers++;
            return true;
        }
    }

    /**
     * A rule as steps that only go forwards. Sums are rows of values, each with the sign that joins it to
     * those ahead; a step either compares two sums (its own number is the sign), turns what holds round,
     * goes on further down, or answers a sum.
     */
    private static final class Rule {
        static final int NOT = 1;
        static final int SKIP_UNLESS = 2;
        static final int SKIP_IF = 3;
        static final int ANSWER = 4;
        /** A text of 400 bytes tells fewer: 12 of if and of ask, 40 by signs and joints, 133 of not. */
        private static final int MAX_STEPS = 256;

        private int values;
        private final int[] join = new int[MAX_PARTS];
        private final int[] value = new int[MAX_PARTS];
        private int sums;
        private final int[] sumFrom = new int[MAX_PARTS];
        private final int[] sumTo = new int[MAX_PARTS];
        private int facts;
        private int steps;
        private final int[] step = new int[MAX_STEPS];
        private final int[] with = new int[MAX_STEPS];

        void clear() {
            values = 0;
            sums = 0;
            facts = 0;
            steps = 0;
        }

        boolean isFull() {
            return values + facts >= MAX_PARTS;
        }

        /** A word is kept as its complement, so that it is below 0 as no number is. */
        void addValue(int joint, int told) {
            if (values < MAX_PARTS) {
                join[values] = joint;
                value[values] = told;
                values++;
            }
        }

        void countFact() {
            facts++;
        }

        int beginSum() {
            if (sums < MAX_PARTS) {
                sumFrom[sums] = values;
                sums++;
            }
            return sums - 1;
        }

        void endSum(int sum) {
            if (sum >= 0 && sum < MAX_PARTS) {
                sumTo[sum] = values;
            }
        }

        int addStep(int what, int whereWith) {
            if (steps < MAX_STEPS) {
                step[steps] = what;
                with[steps] = whereWith;
                steps++;
            }
            return steps - 1;
        }

        /** The step that skips goes on behind the last one there is now. */
        void landHere(int skip) {
            if (skip >= 0 && skip < MAX_STEPS) {
                with[skip] = steps;
            }
        }

        /** The sum of the first clause without a test, or whose test holds; 0 without such. */
        long worth(int[] words) {
            boolean holds = true;
            for (int i = 0; i < steps; i++) {
                int on = with[i];
                switch (step[i]) {
                    case NOT:
                        holds = !holds;
                        break;
                    case SKIP_UNLESS:
                        i = holds ? i : Math.max(i, on - 1);
                        break;
                    case SKIP_IF:
                        i = holds ? Math.max(i, on - 1) : i;
                        break;
                    case ANSWER:
                        return sumOf(on, words);
                    default:
                        holds = compares(step[i], sumOf(on, words), sumOf(on + 1, words));
                }
            }
            return 0;
        }

        private static boolean compares(int sign, long left, long right) {
            switch (sign) {
                case '<': return left < right;
                case '<' + Tape.OR_EQUAL: return left <= right;
                case '>': return left > right;
                case '>' + Tape.OR_EQUAL: return left >= right;
                default: return left == right;
            }
        }

        private long sumOf(int sum, int[] words) {
            if (sum < 0 || sum >= sums) {
                return 0;
            }
            long total = 0;
            long product = 0;
            boolean minus = false;
            for (int i = sumFrom[sum]; i < sumTo[sum]; i++) {
                long next = value[i] < 0 ? words[~value[i]] : value[i];
                switch (join[i]) {
                    case '*':
                        product *= next;
                        break;
                    case '/':
                        product = next == 0 ? 0 : product / next;
                        break;
                    case '%':
                        product = next == 0 ? 0 : product % next;
                        break;
                    default:
                        // The sign waits for the whole product: turned earlier it would divide otherwise at -2^63.
                        total = minus ? total - product : total + product;
                        minus = join[i] == '-';
                        product = next;
                }
            }
            return minus ? total - product : total + product;
        }
    }

    private static final class RuleReader {
        private static final String WORDS =
                "stranger person kind asked before others place far chain term come hour ";
        private static final int AND = 0;

        private final Tape tape;
        private Rule rule;

        RuleReader(Tape tape) {
            this.tape = tape;
        }

        /** Puts the rule that the tape tells into that one; false if there is a fault. */
        boolean read(Rule into) {
            rule = into;
            rule.clear();
            tape.open();
            boolean more = true;
            for (int n = 0; more && n <= RULE_CLAUSES; n++) {
                int asks = rule.beginSum();
                boolean stands = clauseBegins(n) && sum(asks);
                int skip = NONE;
                if (stands && tape.wordAmong("if ") != NONE) {
                    tape.advance();
                    stands = test(0);
                    skip = rule.addStep(Rule.SKIP_UNLESS, 0);
                }
                rule.addStep(Rule.ANSWER, asks);
                rule.landHere(skip);
                more = stands && tape.clauseFollows();
            }
            return tape.fault == 0;
        }

        private boolean clauseBegins(int n) {
            if (tape.wordAmong("ask ") == NONE) {
                return tape.refuse(CANT_STAND);
            }
            if (n >= RULE_CLAUSES) {
                return tape.refuse(CLAUSE_TOO_MANY);
            }
            tape.advance();
            return true;
        }

        /**
         * Where a fact fails, its and goes on behind the next fact; where a part holds, its or goes on at
         * the next or, which goes on likewise: so a skip needs to know no more than the next joint.
         */
        private boolean test(int depth) {
            int or = NONE;
            boolean stands = fact(depth);
            for (int i = 0; stands && i < TAPE_BYTES; i++) {
                int joint = tape.wordAmong("and or ");
                if (joint == NONE) {
                    break;
                }
                tape.advance();
                if (joint == AND) {
                    int and = rule.addStep(Rule.SKIP_UNLESS, 0);
                    stands = fact(depth);
                    rule.landHere(and);
                } else {
                    rule.landHere(or);
                    or = rule.addStep(Rule.SKIP_IF, 0);
                    stands = fact(depth);
                }
            }
            rule.landHere(or);
            return stands;
        }

        private boolean fact(int depth) {
            if (tape.wordAmong("not ") != NONE || tape.signAmong("[") != NONE) {
                return innerFact(depth);
            }
            int left = rule.beginSum();
            if (!sum(left)) {
                return false;
            }
            int sign = tape.signAmong("<=>");
            if (sign == NONE || rule.isFull()) {
                return tape.refuse(sign == NONE ? CANT_STAND : PART_TOO_MANY);
            }
            rule.countFact();
            tape.advance();
            if (!sum(rule.beginSum())) {
                return false;
            }
            // The right sum is the one begun next, so the left one's number tells both.
            rule.addStep(sign, left);
            return true;
        }

        private boolean innerFact(int depth) {
            if (depth >= MAX_DEPTH) {
                return tape.refuse(TOO_DEEP);
            }
            boolean not = tape.kind == Tape.WORD;
            tape.advance();
            if (not) {
                boolean stands = fact(depth + 1);
                rule.addStep(Rule.NOT, 0);
                return stands;
            }
            if (!test(depth + 1)) {
                return false;
            }
            if (tape.signAmong("]") == NONE) {
                return tape.refuse(CANT_STAND);
            }
            tape.advance();
            return true;
        }

        private boolean sum(int number) {
            int joint = '+';
            for (int i = 0; i < TAPE_BYTES && joint != NONE; i++) {
                if (!addValue(joint)) {
                    return false;
                }
                joint = tape.signAmong("+-*/%");
                if (joint != NONE) {
                    tape.advance();
                }
            }
            rule.endSum(number);
            return true;
        }

        private boolean addValue(int joint) {
            int word = tape.wordAmong(WORDS);
            if (word == NONE && tape.kind != Tape.NUMBER) {
                return tape.refuse(CANT_STAND);
            }
            int told = word == NONE ? tape.numberHere() : ~word;
            if (word == NONE && told == NONE) {
                return tape.refuse(NOT_AS_TOLD);
            }
            if (rule.isFull()) {
                return tape.refuse(PART_TOO_MANY);
            }
            rule.addValue(joint, told);
            tape.advance();
            return true;
        }
    }

    /** How all is at the begin of an hour. */
    private static final class State {
        int hour;
        int chain = NONE;
        int come;
        /** The streets that are not shut, as Ways has them. */
        long open;
        final int[] place = new int[MAX_PEOPLE];
        final int[] kind = new int[MAX_PEOPLE];
        final int[] asked = new int[MAX_PEOPLE];
        final int[] total = new int[MAX_PEOPLE];
        final int[] chains = new int[MAX_PEOPLE];
        final int[] at = new int[MAX_STRANGERS];
        final int[] before = new int[MAX_STRANGERS * MAX_PEOPLE];

        void begin(Town town) {
            hour = 0;
            chain = NONE;
            come = 0;
            open = town.streets;
            System.arraycopy(town.place, 0, place, 0, MAX_PEOPLE);
            System.arraycopy(town.kind, 0, kind, 0, MAX_PEOPLE);
            Arrays.fill(asked, 0);
            Arrays.fill(total, 0);
            Arrays.fill(chains, 0);
            Arrays.fill(at, NONE);
            Arrays.fill(before, 0);
        }

        void copyFrom(State other) {
            hour = other.hour;
            chain = other.chain;
            come = other.come;
            open = other.open;
            System.arraycopy(other.place, 0, place, 0, MAX_PEOPLE);
            System.arraycopy(other.kind, 0, kind, 0, MAX_PEOPLE);
            System.arraycopy(other.asked, 0, asked, 0, MAX_PEOPLE);
            System.arraycopy(other.total, 0, total, 0, MAX_PEOPLE);
            System.arraycopy(other.chains, 0, chains, 0, MAX_PEOPLE);
            System.arraycopy(other.at, 0, at, 0, MAX_STRANGERS);
            System.arraycopy(other.before, 0, before, 0, MAX_STRANGERS * MAX_PEOPLE);
        }

        int askedInAll() {
            int all = 0;
            for (int p = 0; p < MAX_PEOPLE; p++) {
                all += total[p];
            }
            return all;
        }
    }

    /** The states ahead of the last acts; of more acts than can be undone the oldest is written over. */
    private static final class Past {
        int size;
        private int next;
        private final State[] kept = new State[MAX_ACTS];

        Past() {
            for (int i = 0; i < MAX_ACTS; i++) {
                kept[i] = new State();
            }
        }

        void clear() {
            size = 0;
        }

        void push(State state) {
            kept[next].copyFrom(state);
            next = (next + 1) % MAX_ACTS;
            size = Math.min(size + 1, MAX_ACTS);
        }

        void pop(State into) {
            if (size == 0) {
                return;
            }
            next = (next + MAX_ACTS - 1) % MAX_ACTS;
            size--;
            into.copyFrom(kept[next]);
        }

        void copyFrom(Past other) {
            size = other.size;
            next = other.next;
            for (int i = 1; i <= size; i++) {
                int k = (next + MAX_ACTS - i) % MAX_ACTS;
                kept[k].copyFrom(other.kept[k]);
            }
        }
    }

    /** All that an image keeps: what there is, but for the rules and the tape. */
    private static final class Scene {
        Town town = new Town();
        final State state = new State();
        final Past past = new Past();
        int force = NONE;
        int x;
        int notes;
        final int[] noteHour = new int[MAX_NOTES];
        final int[] noteStranger = new int[MAX_NOTES];
        final int[] notePerson = new int[MAX_NOTES];

        void move(Town told) {
            town = told;
            state.begin(told);
            past.clear();
            notes = 0;
        }

        void addNote(int n, int stranger, int person) {
            if (notes < MAX_NOTES) {
                noteHour[notes] = n;
                noteStranger[notes] = stranger;
                notePerson[notes] = person;
                notes++;
            }
        }

        void copyFrom(Scene other) {
            town = other.town;
            state.copyFrom(other.state);
            past.copyFrom(other.past);
            force = other.force;
            x = other.x;
            notes = other.notes;
            System.arraycopy(other.noteHour, 0, noteHour, 0, MAX_NOTES);
            System.arraycopy(other.noteStranger, 0, noteStranger, 0, MAX_NOTES);
            System.arraycopy(other.notePerson, 0, notePerson, 0, MAX_NOTES);
        }

        /** A person's pence: the part downwards, and one of those left if fewer people lost more by that. */
        int share(int much, int person) {
            int all = state.askedInAll();
            if (all == 0) {
                return 0;
            }
            int left = much;
            int ahead = 0;
            int lost = much * state.total[person] % all;
            for (int p = 0; p < town.people; p++) {
                left -= much * state.total[p] / all;
                int other = much * state.total[p] % all;
                if (other > lost || other == lost && p < person) {
                    ahead++;
                }
            }
            return much * state.total[person] / all + (ahead < left ? 1 : 0);
        }
    }

    /** How far it is between places. Streets are one long: eight bits for each place, whereto there is one. */
    private static final class Ways {
        private long measured;
        private final int[] far = new int[MAX_PLACES * MAX_PLACES];

        Ways() {
            measure(0L);
        }

        static long street(int one, int other) {
            return one == other ? 0L : 1L << one * MAX_PLACES + other | 1L << other * MAX_PLACES + one;
        }

        static int neighbours(long streets, int place) {
            return (int) (streets >>> place * MAX_PLACES) & 255;
        }

        /** The streets are those: all is measured anew only where they are others than before. */
        void follow(long streets) {
            if (streets != measured) {
                measure(streets);
            }
        }

        private void measure(long streets) {
            measured = streets;
            Arrays.fill(far, NO_WAY);
            for (int from = 0; from < MAX_PLACES; from++) {
                int seen = 0;
                int edge = 1 << from;
                for (int d = 0; d < MAX_PLACES && edge != 0; d++) {
                    int next = 0;
                    for (int place = 0; place < MAX_PLACES; place++) {
                        if ((edge >> place & 1) == 1) {
                            far[from * MAX_PLACES + place] = d;
                            next |= neighbours(streets, place);
                        }
                    }
                    seen |= edge;
                    edge = next & ~seen;
                }
            }
        }

        int far(int from, int to) {
            boolean there = from >= 0 && from < MAX_PLACES && to >= 0 && to < MAX_PLACES;
            return there ? far[from * MAX_PLACES + to] : NO_WAY;
        }

        /** The first place on a way, of several the least; where one is, if that is it or there is no way. */
        int step(int from, int to) {
            int distance = far(from, to);
            if (distance == NO_WAY) {
                return from;
            }
            int near = neighbours(measured, from);
            for (int place = 0; place < MAX_PLACES; place++) {
                if ((near >> place & 1) == 1 && far(place, to) == distance - 1) {
                    return place;
                }
            }
            return from;
        }

        static int least(int places, int without) {
            for (int place = 0; place < MAX_PLACES; place++) {
                if ((places >> place & 1) == 1) {
                    return place;
                }
            }
            return without;
        }

        static int greatest(int places, int without) {
            for (int place = MAX_PLACES - 1; place >= 0; place--) {
                if ((places >> place & 1) == 1) {
                    return place;
                }
            }
            return without;
        }
    }

    /** Lets hours pass in a town by a rule (null: without one), with those people wrong. */
    private static final class Clock {
        // The words' numbers are their places in RuleReader.WORDS.
        private static final int STRANGER = 0;
        private static final int PERSON = 1;
        private static final int KIND = 2;
        private static final int ASKED = 3;
        private static final int BEFORE = 4;
        private static final int OTHERS = 5;
        private static final int PLACE = 6;
        private static final int FAR = 7;
        private static final int CHAIN = 8;
        private static final int TERM = 9;
        private static final int COME = 10;
        private static final int HOUR = 11;
        private static final int WORD_COUNT = 12;

        final Ways ways = new Ways();
        /** Whom each stranger asked in the last hour that passed. */
        final int[] whom = new int[MAX_STRANGERS];
        private final int[] words = new int[WORD_COUNT];
        private Town town = new Town();
        private Rule rule;
        private int wrong;

        void wind(Town inTown, Rule byRule, int wrongPeople) {
            town = inTown;
            rule = byRule;
            wrong = wrongPeople;
        }

        void run(State state, int hours) {
            for (int i = 0; i < hours; i++) {
                pass(state);
            }
        }

        /** One hour: how many ask. */
        int pass(State state) {
            ways.follow(state.open);
            arrive(state);
            int asking = 0;
            for (int g = 0; g < town.strangers; g++) {
                whom[g] = NONE;
                if (state.at[g] == town.to[g]) {
                    state.at[g] = NONE;
                    state.come++;
                } else if (state.at[g] != NONE) {
                    whom[g] = choose(state, g);
                    asking += whom[g] == NONE ? 0 : 1;
                    countAsked(state, g);
                    state.at[g] = whereTo(state, g);
                }
            }
            closeTerm(state);
            state.hour++;
            return asking;
        }

        private void arrive(State state) {
            for (int g = 0; g < town.strangers; g++) {
                int every = town.every[g];
                if (state.at[g] == NONE && every > 0 && state.hour % every == 0) {
                    state.at[g] = town.from[g];
                }
            }
        }

        private int choose(State state, int g) {
            int chosen = NONE;
            // By a rule it must be above 0; without one anybody who stands there will do.
            long most = rule == null ? -1 : 0;
            if (rule != null) {
                tellOfStranger(state, g);
            }
            for (int p = 0; p < town.people; p++) {
                if (state.place[p] == state.at[g]) {
                    long worth = state.kind[p];
                    if (rule != null) {
                        tellOfPerson(state, g, p);
                        worth = rule.worth(words);
                    }
                    if (worth > most) {
                        most = worth;
                        chosen = p;
                    }
                }
            }
            return chosen;
        }

        private void tellOfStranger(State state, int g) {
            int standing = 0;
            for (int p = 0; p < town.people; p++) {
                standing += state.place[p] == state.at[g] ? 1 : 0;
            }
            words[STRANGER] = g;
            words[OTHERS] = standing - 1;
            words[PLACE] = state.at[g];
            words[FAR] = ways.far(state.at[g], town.to[g]);
            words[TERM] = town.term > 0 ? state.hour % town.term : 0;
            words[COME] = state.come;
            words[HOUR] = state.hour;
        }

        private void tellOfPerson(State state, int g, int p) {
            words[PERSON] = p;
            words[KIND] = state.kind[p];
            words[ASKED] = state.asked[p];
            words[BEFORE] = state.before[g * MAX_PEOPLE + p];
            words[CHAIN] = state.chain == p ? 1 : 0;
        }

        private void countAsked(State state, int g) {
            int p = whom[g];
            if (p != NONE) {
                state.asked[p]++;
                state.total[p]++;
                state.before[g * MAX_PEOPLE + p]++;
            }
        }

        private int whereTo(State state, int g) {
            int here = state.at[g];
            int near = Ways.neighbours(state.open, here);
            if (whom[g] == NONE) {
                return Ways.least(near, here);
            }
            if ((wrong >> whom[g] & 1) == 1) {
                return Ways.greatest(near, here);
            }
            return ways.step(here, town.to[g]);
        }

        private void closeTerm(State state) {
            if (town.term <= 0 || state.hour % town.term != town.term - 1) {
                return;
            }
            int most = 0;
            state.chain = NONE;
            for (int p = 0; p < town.people; p++) {
                if (state.asked[p] > most) {
                    most = state.asked[p];
                    state.chain = p;
                }
            }
            if (state.chain != NONE) {
                state.chains[state.chain]++;
            }
            Arrays.fill(state.asked, 0);
        }
    }

    /** What would come from now on. It tries on states of its own; the clock is wound by who asks. */
    private static final class Outlook {
        private final Scene now;
        private final Clock clock;
        private final State trial = new State();
        /** How all is ahead of each turn of a game, and behind the last. */
        private final State[] turns = new State[MAX_TURNS + 1];
        private final int[] gainOfOne = new int[MAX_PLACES * MAX_PLACES];
        private final int[] gainOfOther = new int[MAX_PLACES * MAX_PLACES];
        private int one;
        private int other;
        private int turnCount;
        private int firstMove;
        private int x;

        Outlook(Scene now, Clock clock) {
            this.now = now;
            this.clock = clock;
            for (int i = 0; i <= MAX_TURNS; i++) {
                turns[i] = new State();
            }
        }

        State after(int hours) {
            trial.copyFrom(now.state);
            clock.run(trial, hours);
            return trial;
        }

        int firstChain(int person) {
            trial.copyFrom(now.state);
            for (int i = 0; i < MAX_AHEAD; i++) {
                if (trial.chain == person) {
                    return trial.hour;
                }
                clock.pass(trial);
            }
            return NO_SUCH;
        }

        int bestPitch(int person, int n, int what) {
            int best = NONE;
            int most = NONE;
            for (int place = 0; place < now.town.places; place++) {
                trial.copyFrom(now.state);
                trial.place[person] = place;
                clock.run(trial, n);
                int often = trial.total[person] - now.state.total[person];
                if (often > most) {
                    most = often;
                    best = place;
                }
            }
            return what == 0 ? best : most;
        }

        int leastSmile(int person, int n) {
            for (int kind = 0; kind <= MAX_KIND; kind++) {
                trial.copyFrom(now.state);
                trial.kind[person] = kind;
                clock.run(trial, n);
                if (trial.chain == person) {
                    return kind;
                }
            }
            return NO_SUCH;
        }

        int cameFrom(int stranger, int n, int place, int what) {
            int many = 0;
            int least = NO_SUCH;
            for (int from = 0; from < now.town.places; from++) {
                trial.copyFrom(now.state);
                trial.at[stranger] = from;
                clock.run(trial, n);
                if (trial.at[stranger] == place) {
                    many++;
                    least = least == NO_SUCH ? from : least;
                }
            }
            return what == 0 ? many : least;
        }

        int bestShut(int n, int what) {
            int most = comeBy(now.state.open, n);
            int lesser = NONE;
            int greater = NONE;
            for (int a = 0; a < now.town.places; a++) {
                for (int b = a + 1; b < now.town.places; b++) {
                    long street = Ways.street(a, b);
                    if ((now.state.open & street) != 0) {
                        int come = comeBy(now.state.open & ~street, n);
                        if (come > most) {
                            most = come;
                            lesser = a;
                            greater = b;
                        }
                    }
                }
            }
            if (what == 0) {
                return most;
            }
            return what == 1 ? lesser : greater;
        }

        private int comeBy(long open, int n) {
            trial.copyFrom(now.state);
            trial.open = open;
            clock.run(trial, n);
            return trial.come - now.state.come;
        }

        int duel(int first, int second, int n, int what) {
            one = first;
            other = second;
            turnCount = n;
            firstMove = NONE;
            turns[0].copyFrom(now.state);
            int much = play(0);
            return what == 0 ? much : firstMove;
        }

        /** How much oftener the first one is asked in all these turns, if both do their best from this one on. */
        private int play(int turn) {
            State here = turns[turn];
            if (turn >= turnCount || turn >= MAX_TURNS) {
                return lead(here) - lead(now.state);
            }
            boolean wantsMore = turn % 2 == 0;
            int mover = wantsMore ? one : other;
            int reach = Ways.neighbours(here.open, here.place[mover]) | 1 << here.place[mover];
            State next = turns[turn + 1];
            int best = 0;
            boolean any = false;
            for (int place = 0; place < now.town.places; place++) {
                if ((reach >> place & 1) == 1) {
                    next.copyFrom(here);
                    next.place[mover] = place;
                    clock.pass(next);
                    int much = play(turn + 1);
                    if (!any || (wantsMore ? much > best : much < best)) {
                        any = true;
                        best = much;
                        firstMove = turn == 0 ? place : firstMove;
                    }
                }
            }
            return best;
        }

        private int lead(State state) {
            return state.total[one] - state.total[other];
        }

        int stableTwos(int first, int second, int n, int what) {
            fillGains(first, second, n);
            int many = 0;
            int placeOfOne = NO_SUCH;
            int placeOfOther = NO_SUCH;
            for (int a = 0; a < now.town.places; a++) {
                for (int b = 0; b < now.town.places; b++) {
                    if (rest(a, b)) {
                        many++;
                        placeOfOne = many == 1 ? a : placeOfOne;
                        placeOfOther = many == 1 ? b : placeOfOther;
                    }
                }
            }
            if (what == 0) {
                return many;
            }
            return what == 1 ? placeOfOne : placeOfOther;
        }

        private void fillGains(int first, int second, int n) {
            for (int a = 0; a < now.town.places; a++) {
                for (int b = 0; b < now.town.places; b++) {
                    trial.copyFrom(now.state);
                    trial.place[first] = a;
                    trial.place[second] = b;
                    clock.run(trial, n);
                    int two = a * MAX_PLACES + b;
                    gainOfOne[two] = trial.total[first] - now.state.total[first];
                    gainOfOther[two] = trial.total[second] - now.state.total[second];
                }
            }
        }

        private boolean rest(int a, int b) {
            int two = a * MAX_PLACES + b;
            for (int place = 0; place < now.town.places; place++) {
                if (gainOfOne[place * MAX_PLACES + b] > gainOfOne[two]
                        || gainOfOther[a * MAX_PLACES + place] > gainOfOther[two]) {
                    return false;
                }
            }
            return true;
        }

        int drawn(int m, int n, int p, int what) {
            x = now.x;
            int come = 0;
            int asking = 0;
            for (int time = 0; time < m; time++) {
                trial.copyFrom(now.state);
                for (int i = 0; i < n; i++) {
                    if (draw() % 100 < p) {
                        placeByDraw();
                    }
                    asking += clock.pass(trial);
                }
                come += trial.come - now.state.come;
            }
            return what == 0 ? come : asking;
        }

        private void placeByDraw() {
            int people = now.town.people;
            int places = now.town.places;
            if (people > 0 && places > 0) {
                int person = draw() % people;
                trial.place[person] = draw() % places;
            }
        }

        private int draw() {
            x = x * 1103515245 + 12345 & 2147483647;
            return x / 65536;
        }
    }

    /** What is so by the notes: hours from the begin on, as the text told all. */
    private static final class History {
        private final Scene now;
        private final Clock clock;
        private final State trial = new State();
        /** Of each stranger a row: whom he asks in the hour looked at, by each rule that fits. */
        private final int[] answers = new int[MAX_STRANGERS * (MAX_RULES + 1)];

        History(Scene now, Clock clock) {
            this.now = now;
            this.clock = clock;
        }

        int wrongSets(Rule rule, int what) {
            int many = 0;
            int least = NO_SUCH;
            int inAll = (1 << now.town.people) - 1;
            for (int set = 0; set < 1 << now.town.people; set++) {
                clock.wind(now.town, rule, set);
                if (notesAreSo()) {
                    many++;
                    least = least == NO_SUCH ? set : least;
                    inAll &= set;
                }
            }
            switch (what) {
                case 0: return many;
                case 1: return least;
                default: return many == 0 ? 0 : inAll;
            }
        }

        int rulesThatFit(Rule[] rules, int ruleCount, int what) {
            int many = 0;
            int first = NO_SUCH;
            for (int r = NONE; r < ruleCount; r++) {
                clock.wind(now.town, r == NONE ? null : rules[r], now.town.wrong);
                if (notesAreSo()) {
                    many++;
                    first = first == NO_SUCH ? r : first;
                }
            }
            return what == 0 ? many : first;
        }

        int bestLook(Rule[] rules, int ruleCount, int n, int what) {
            int fits = 0;
            for (int r = NONE; r < ruleCount; r++) {
                clock.wind(now.town, r == NONE ? null : rules[r], now.town.wrong);
                if (notesAreSo()) {
                    trial.begin(now.town);
                    clock.run(trial, n + 1);
                    for (int g = 0; g < now.town.strangers; g++) {
                        answers[g * (MAX_RULES + 1) + fits] = clock.whom[g];
                    }
                    fits++;
                }
            }
            int best = NO_SUCH;
            int fewest = NO_SUCH;
            for (int g = 0; fits > 0 && g < now.town.strangers; g++) {
                int alike = mostAlike(g * (MAX_RULES + 1), fits);
                if (best == NO_SUCH || alike < fewest) {
                    best = g;
                    fewest = alike;
                }
            }
            return what == 0 ? best : fewest;
        }

        private int mostAlike(int row, int fits) {
            int most = 0;
            for (int i = 0; i < fits; i++) {
                int alike = 0;
                for (int k = 0; k < fits; k++) {
                    alike += answers[row + i] == answers[row + k] ? 1 : 0;
                }
                most = Math.max(most, alike);
            }
            return most;
        }

        /** By the clock as it is wound; hours behind the last note are not looked at. */
        private boolean notesAreSo() {
            int last = NONE;
            for (int i = 0; i < now.notes; i++) {
                last = Math.max(last, now.noteHour[i]);
            }
            trial.begin(now.town);
            for (int n = 0; n <= last; n++) {
                clock.pass(trial);
                for (int i = 0; i < now.notes; i++) {
                    if (now.noteHour[i] == n && clock.whom[now.noteStranger[i]] != now.notePerson[i]) {
                        return false;
                    }
                }
            }
            return true;
        }
    }
}
