/** Sentences that name a boundary case: promises 17 to 27, and of "Terms" what is asked of how it goes on. */
public final class EdgeAskTest {
    private static final int NONE = WayMayor.NONE;
    private static final int MIN = Integer.MIN_VALUE;
    private static final int MAX = Integer.MAX_VALUE;
    private static final Sentences SAY = new Sentences("EdgeAskTest");
    /** Numbers of which a town of few has none. */
    private static final int[] FAR_OFF = {6, 8, 64, MAX, -1, -2, MIN};
    /** In even hours he asks, in odd ones he gets there. */
    private static final String PAIR = "town 2 1;street 0 1;person 0 1 0;stranger 0 1 1";
    /** He never gets away from 0, and asks each hour. */
    private static final String STUCK = "town 2 1;person 0 4 0;person 0 9 0;stranger 0 1 1";
    private static final String MIDDLE = "town 3 1;street 0 1;street 1 2;person 1 5 0;person 1 4 0;stranger 0 2 1";
    private static final String LINE = "town 4 3;street 0 1;street 1 2;street 2 3;"
            + "person 0 5 0;person 1 3 1;person 2 4 0;stranger 0 3 2";
    /** Who is sent right is there at once; who is sent wrong comes to person 2. */
    private static final String FORK = "town 3 9;street 0 1;street 0 2;person 0 5 0;person 1 5 0;person 2 5 0;"
            + "stranger 0 1 1";

    private EdgeAskTest() {
    }

    public static void main(String[] args) {
        nothingChanges();
        ahead();
        mayor();
        pitch();
        smile();
        way();
        came();
        liars();
        post();
        postOfSeveral();
        game();
        rests();
        pence();
        SAY.close();
    }

    private static void askAll(WayMayor x) {
        for (int what = 0; what < 4; what++) {
            x.ahead(0, 100, what);
            x.pitch(0, 60, what);
            x.smile(what, 60);
            x.mayor(what);
            x.way(0, 1, what);
            x.came(0, 30, 1, what);
            x.liars(what);
            x.post(60, what);
            x.game(0, 1, 3, what);
            x.rests(0, 1, 20, what);
            x.pence(9999, what);
            x.ruled(what);
            x.look(60, what);
            x.markets(10, 60, 100, what);
            x.count(what);
        }
    }

    private static void nothingChanges() {
        SAY.of(17, "(By what is asked nothing changes; HOURS go on by the RULE IN FORCE, beyond 999, too.)");
        WayMayor x = Sentences.by(LINE, "ask 10-kind");
        x.hour();
        x.stand(2, 1);
        x.shut(2, 3);
        x.note(0, 0, 0);
        x.seed(77);
        String seen = Sentences.seen(x);
        askAll(x);
        SAY.holds("nothing changes", seen.equals(Sentences.seen(x)));
        SAY.due("what can be undone", x.undo(), 2);
        x = Sentences.by(STUCK, "ask 10-kind");
        SAY.due("by the rule in force", x.ahead(0, 10, 0), 10);
        x.force(NONE);
        SAY.due("by none", x.ahead(0, 10, 0), 0);
        // It takes more calls to come to it than an object is promised to be used for.
        x = Check.inTown(PAIR);
        Sentences.hours(x, 999);
        SAY.due("hour 999", x.count(8), 499);
        SAY.due("one hour on", x.ahead(0, 1, 2), 500);
        SAY.due("a hundred hours on", x.ahead(0, 100, 2), 549);
        SAY.due("mayor", x.mayor(0), 999);
    }

    private static void ahead() {
        SAY.of(17, "AHEAD n HOURS (0 to 100): how often a PERSON was ASKED, in all; where a STRANGER is; how many have got "
                + "there; who has the CHAIN.");
        WayMayor x = Check.inTown(PAIR);
        int[] hours = {0, 1, 2, 3, 99, 100};
        int[][] due = {{0, NONE, 0, NONE}, {1, 1, 0, 0}, {1, NONE, 1, NONE}, {2, 1, 1, 0}, {50, 1, 49, 0},
            {50, NONE, 50, NONE}};
        for (int i = 0; i < hours.length; i++) {
            for (int what = 0; what < 4; what++) {
                SAY.due("ahead " + hours[i] + " what " + what, x.ahead(0, hours[i], what), due[i][what]);
            }
        }
        x.hour();
        SAY.due("in all, with those ahead of now", x.ahead(0, 2, 0), 2);
        SAY.due("0 hours on: as it is", x.ahead(0, 0, 0), 1);
        SAY.due("0 hours on: where he is", x.ahead(0, 0, 1), 1);

        SAY.of(17, "AHEAD what 0: how often the PERSON, 1: where the STRANGER of that number (NONE: not in the TOWN), 2: how "
                + "many, 3: who has the CHAIN (NONE: nobody; of no number). -2 without these, or a TOWN.");
        int[] hoursNot = {101, MAX, -1, MIN};
        int[] whatNot = {4, MAX, -1, MIN};
        for (int i = 0; i < 4; i++) {
            for (int what = 0; what < 4; what++) {
                SAY.due("n " + hoursNot[i] + " what " + what, x.ahead(0, hoursNot[i], what), -2);
            }
            SAY.due("what " + whatNot[i], x.ahead(0, 1, whatNot[i]), -2);
        }
        for (int number : FAR_OFF) {
            SAY.due("person " + number, x.ahead(number, 1, 0), -2);
            SAY.due("stranger " + number, x.ahead(number, 1, 1), -2);
            SAY.due("got there, of no number " + number, x.ahead(number, 1, 2), 1);
            SAY.due("chain, of no number " + number, x.ahead(number, 0, 3), 0);
        }
        x = Check.inTown(STUCK);
        SAY.due("person 1", x.ahead(1, 3, 0), 3);
        SAY.due("no stranger 1", x.ahead(1, 3, 1), -2);
        x = Check.inTown("town 2 1;stranger 0 1 1;stranger 1 0 1");
        SAY.due("stranger 1", x.ahead(1, 3, 1), 1);
        SAY.due("no person 1", x.ahead(1, 3, 0), -2);
        x = Check.inTown("town 2 1");
        SAY.due("nobody got there", x.ahead(0, 100, 2), 0);
        SAY.due("nobody", x.ahead(0, 100, 3), NONE);
        for (int what = 0; what < 4; what++) {
            SAY.due("no town, what " + what, new WayMayor().ahead(0, 0, what), -2);
        }
    }

    private static void mayor() {
        SAY.of(18, "MAYOR: of a PERSON the first HOUR, this one the first, of 100, at whose begin they have the CHAIN.");
        WayMayor x = Sentences.by(STUCK, "ask 1 if hour=98 and person=1");
        SAY.due("the hundredth", x.mayor(1), 99);
        x = Sentences.by(STUCK, "ask 1 if hour=99 and person=1");
        SAY.due("the hundred and first", x.mayor(1), -2);
        x.hour();
        SAY.due("an hour on, the hundredth", x.mayor(1), 100);
        x = Check.inTown(PAIR);
        SAY.due("not at this one", x.mayor(0), 1);
        x.hour();
        SAY.due("this one", x.mayor(0), 1);
        x.hour();
        SAY.due("lost, and again", x.mayor(0), 3);
        x = Sentences.by(STUCK, "ask 1 if hour=0 and person=1");
        SAY.due("had for one hour", x.mayor(1), 1);

        SAY.of(18, "MAYOR; -2: at none of these; NONE without that PERSON.");
        SAY.due("never", x.mayor(0), -2);
        x = Check.inTown(STUCK);
        SAY.due("never asked", x.mayor(0), -2);
        SAY.due("person 2 of 2", x.mayor(2), NONE);
        for (int person : FAR_OFF) {
            SAY.due("person " + person, x.mayor(person), NONE);
        }
        SAY.due("no town", new WayMayor().mayor(0), NONE);
    }

    private static void pitch() {
        SAY.of(19, "PITCH of a PERSON for n HOURS (1 to 60): the PLACE where they had best stand from now on (where they do, "
                + "too), so that they are ASKED most often in these; of several the least; how often.");
        String line = "town 4 1;street 0 1;street 1 2;street 2 3;person 3 5 0;stranger 0 3 20";
        WayMayor x = Check.inTown(line);
        SAY.due("one hour", x.pitch(0, 1, 0), 0);
        SAY.due("how often", x.pitch(0, 1, 1), 1);
        SAY.due("60 hours", x.pitch(0, 60, 0), 0);
        SAY.due("how often", x.pitch(0, 60, 1), 30);
        x.stand(0, 0);
        SAY.due("where they stand", x.pitch(0, 1, 0), 0);
        SAY.due("how often", x.pitch(0, 1, 1), 1);
        x.hour();
        SAY.due("he is at 1 now", x.pitch(0, 1, 0), 1);
        SAY.due("in these alone", x.pitch(0, 1, 1), 1);
        // By others at 1 and 2 the one at 2 is asked once in three hours, as would be one at 0.
        x = Check.inTown("town 4 9;street 0 1;street 1 2;street 2 3;person 3 0 0;person 1 5 0;stranger 0 3 20");
        SAY.due("of 0 and 2 the least", x.pitch(0, 3, 0), 0);
        SAY.due("how often", x.pitch(0, 3, 1), 1);
        x = Check.inTown("town 8 1;person 7 5 0");
        SAY.due("never: of all the least", x.pitch(0, 60, 0), 0);
        SAY.due("never", x.pitch(0, 60, 1), 0);
        x = Check.inTown("town 8 1;person 0 5 0;stranger 7 0 1");
        SAY.due("the last place", x.pitch(0, 60, 0), 7);
        SAY.due("each hour", x.pitch(0, 60, 1), 60);

        SAY.of(19, "PITCH what 0: the PLACE, 1: how often. NONE without these.");
        int[] hoursNot = {0, 61, MAX, -1, MIN};
        int[] whatNot = {2, 3, MAX, -1, MIN};
        for (int i = 0; i < 5; i++) {
            SAY.due("n " + hoursNot[i], x.pitch(0, hoursNot[i], 0), NONE);
            SAY.due("what " + whatNot[i], x.pitch(0, 1, whatNot[i]), NONE);
        }
        SAY.due("person 1 of 1", x.pitch(1, 1, 0), NONE);
        for (int person : FAR_OFF) {
            SAY.due("person " + person, x.pitch(person, 1, 0), NONE);
        }
        SAY.due("no town", new WayMayor().pitch(0, 1, 0), NONE);
    }

    private static void smile() {
        SAY.of(20, "SMILE of a PERSON for n HOURS (1 to 60): the least KIND, 0 to 9, in place of what it is, by which they have "
                + "the CHAIN then.");
        WayMayor x = Check.inTown(STUCK);
        SAY.due("as kind as the other one", x.smile(0, 1), 9);
        SAY.due("kinder than the other one", x.smile(1, 1), 5);
        SAY.due("60 hours", x.smile(0, 60), 9);
        SAY.due("60 hours", x.smile(1, 60), 5);
        x = Check.inTown(PAIR);
        SAY.due("alone", x.smile(0, 1), 0);
        SAY.due("asked in the first of two hours: had it, has it no more", x.smile(0, 2), -2);
        SAY.due("three hours", x.smile(0, 3), 0);
        x = Check.inTown("town 2 5;street 0 1;person 0 1 0;stranger 0 1 1");
        SAY.due("the term goes on", x.smile(0, 4), -2);
        SAY.due("its end", x.smile(0, 5), 0);
        x = Sentences.by(STUCK, "ask 10-kind if kind>2 and person=1");
        SAY.due("by a rule", x.smile(1, 1), 3);
        x = Sentences.by(STUCK, "ask 1 if person=1");
        SAY.due("by any, none below 0", x.smile(1, 1), 0);

        SAY.of(20, "SMILE; -2: by none; NONE without these.");
        x = Check.inTown("town 2 1;person 0 9 0;person 0 9 0;stranger 0 1 1");
        SAY.due("10 would be needed", x.smile(1, 1), -2);
        SAY.due("person 0", x.smile(0, 1), 9);
        int[] hoursNot = {0, 61, MAX, -1, MIN};
        for (int n : hoursNot) {
            SAY.due("n " + n, x.smile(0, n), NONE);
        }
        SAY.due("person 2 of 2", x.smile(2, 1), NONE);
        for (int person : FAR_OFF) {
            SAY.due("person " + person, x.smile(person, 1), NONE);
        }
        SAY.due("no town", new WayMayor().smile(0, 1), NONE);
    }

    private static void way() {
        SAY.of(21, "WAY from one PLACE to another: how many streets; the first PLACE on it, of several the least.");
        WayMayor x = Check.inTown("town 8 1;street 0 7;street 7 3;street 0 6;street 6 3;street 0 5;street 5 4;street 4 3;"
                + "street 3 2");
        SAY.due("how many", x.way(0, 3, 0), 2);
        SAY.due("of 6 and 7 the least, 5 is on a longer one", x.way(0, 3, 1), 6);
        SAY.due("back", x.way(3, 0, 1), 6);
        SAY.due("a street", x.way(0, 7, 0), 1);
        SAY.due("at once", x.way(0, 7, 1), 7);

        SAY.of(21, "WAY what 0: how many, 1: the first PLACE (that one, if it is the same); -2: there is none.");
        SAY.due("the same", x.way(7, 7, 0), 0);
        SAY.due("the same", x.way(7, 7, 1), 7);
        SAY.due("the same, without any street", x.way(1, 1, 1), 1);
        SAY.due("none", x.way(0, 1, 0), -2);
        SAY.due("none", x.way(0, 1, 1), -2);
        SAY.due("none", x.way(1, 0, 1), -2);
        x.shut(2, 3);
        SAY.due("shut", x.way(0, 2, 0), -2);
        SAY.due("shut", x.way(2, 0, 1), -2);

        SAY.of(21, "NONE without these.");
        x = Check.inTown("town 3 1;street 0 1;street 1 2");
        SAY.due("place 3 of 3", x.way(3, 0, 0), NONE);
        SAY.due("place 3 of 3", x.way(0, 3, 0), NONE);
        SAY.due("both the same", x.way(3, 3, 0), NONE);
        for (int place : FAR_OFF) {
            SAY.due("from " + place, x.way(place, 0, 0), NONE);
            SAY.due("to " + place, x.way(0, place, 1), NONE);
        }
        int[] whatNot = {2, MAX, -1, MIN};
        for (int what : whatNot) {
            SAY.due("what " + what, x.way(0, 1, what), NONE);
        }
        SAY.due("no town", new WayMayor().way(0, 0, 0), NONE);
    }

    private static void came() {
        SAY.of(22, "CAME of a STRANGER, n HOURS (1 to 30) and a PLACE: PLACES at which he can be now, in place of where he is, "
                + "or not in the TOWN, all else as it is, so that he is there behind these: how many; the least.");
        String star = "town 4 1;street 0 1;street 0 2;street 0 3;stranger 1 0 1";
        WayMayor x = Check.inTown(star);
        SAY.due("one hour", x.came(0, 1, 0, 0), 3);
        SAY.due("not from 0, where he gets there", x.came(0, 1, 0, 1), 1);
        SAY.due("29 hours", x.came(0, 29, 0, 0), 3);
        SAY.due("30 hours", x.came(0, 30, 0, 0), 1);
        SAY.due("from 0 he comes an hour later", x.came(0, 30, 0, 1), 0);
        String line = "town 5 9;street 0 1;street 1 2;street 2 3;street 3 4;person 0 1 0;person 1 1 0;person 2 1 0;"
                + "person 3 1 0;stranger 0 4 5";
        x = Check.inTown(line);
        SAY.due("not in the town: he may be at 2", x.came(0, 1, 3, 1), 2);
        SAY.due("alone", x.came(0, 1, 3, 0), 1);
        Sentences.hours(x, 4);
        SAY.due("in the town: he may be elsewhere", x.came(0, 1, 3, 1), 2);
        // From 4 he gets there, and comes again in hour 5; so does one who is not in the town, which is no place.
        SAY.due("places alone", x.came(0, 2, 1, 0), 1);
        SAY.due("from 4", x.came(0, 2, 1, 1), 4);
        x.hunt(0);
        SAY.due("he is not in the town himself", x.came(0, 2, 1, 0), 1);
        x = Check.inTown("town 8 1;street 0 1;stranger 0 7 1");
        SAY.due("of eight places 0 alone", x.came(0, 1, 1, 0), 1);
        SAY.due("of eight places 0 alone", x.came(0, 1, 1, 1), 0);

        SAY.of(22, "CAME what 0: how many, 1: the least (-2: there is none). NONE without these.");
        x = Check.inTown(star);
        SAY.due("none", x.came(0, 1, 2, 0), 0);
        SAY.due("none", x.came(0, 1, 2, 1), -2);
        int[] hoursNot = {0, 31, MAX, -1, MIN};
        int[] whatNot = {2, 3, MAX, -1, MIN};
        for (int i = 0; i < 5; i++) {
            SAY.due("n " + hoursNot[i], x.came(0, hoursNot[i], 0, 0), NONE);
            SAY.due("what " + whatNot[i], x.came(0, 1, 0, whatNot[i]), NONE);
        }
        SAY.due("stranger 1 of 1", x.came(1, 1, 0, 0), NONE);
        SAY.due("place 4 of 4", x.came(0, 1, 4, 0), NONE);
        for (int number : FAR_OFF) {
            SAY.due("stranger " + number, x.came(number, 1, 0, 0), NONE);
            SAY.due("place " + number, x.came(0, 1, number, 1), NONE);
        }
        SAY.due("no town", new WayMayor().came(0, 1, 0, 0), NONE);
    }

    private static void threeOfLiars(WayMayor x, String when, int many, int least, int inAll) {
        SAY.due(when + ": how many", x.liars(0), many);
        SAY.due(when + ": the least", x.liars(1), least);
        SAY.due(when + ": in all", x.liars(2), inAll);
    }

    private static void liars() {
        SAY.of(23, "LIARS: of all sets of PEOPLE those by which, if they were WRONG and no others, from the begin on, by the "
                + "RULE IN FORCE, all else as the text told it, all NOTES are so: how many; the least as bits; PEOPLE that "
                + "are in all, as bits (0 without such).");
        WayMayor x = Check.inTown(FORK);
        threeOfLiars(x, "no notes", 8, 0, 0);
        x.note(1, 0, 2);
        threeOfLiars(x, "0 sends wrong", 4, 1, 1);
        x.note(0, 0, 0);
        threeOfLiars(x, "so, too", 4, 1, 1);
        x.stand(0, 1);
        x.shut(0, 1);
        x.collar(1, 9);
        Sentences.hours(x, 4);
        threeOfLiars(x, "as the text told it", 4, 1, 1);
        x.note(1, 0, NONE);
        threeOfLiars(x, "not both", 0, -2, 0);
        x = Check.inTown(FORK.replace("0 5 0", "0 5 1"));
        x.note(1, 0, NONE);
        threeOfLiars(x, "told wrong, but not by the notes", 4, 0, 0);
        Check.rule(x, "ask 1 if person=2");
        x.force(0);
        threeOfLiars(x, "by the rule in force", 8, 0, 0);
        x = Check.inTown("town 3 9;street 0 1;street 0 2;person 1 5 0;person 1 4 0;person 1 3 0;person 1 2 0;person 2 5 0;"
                + "person 0 5 0;stranger 0 1 1");
        threeOfLiars(x, "six people", 64, 0, 0);
        x.note(1, 0, 4);
        threeOfLiars(x, "the last one sends wrong", 32, 32, 32);
        x = Check.inTown("town 2 1;street 0 1;stranger 0 1 1");
        x.note(60, 0, NONE);
        threeOfLiars(x, "nobody: the empty set", 1, 0, 0);

        SAY.of(23, "LIARS what 0: how many, 1: the least (-2: there is none), 2: in all. -3 for others, or without a TOWN.");
        x = Check.inTown(FORK);
        x.note(0, 0, NONE);
        threeOfLiars(x, "none", 0, -2, 0);
        int[] whatNot = {3, 4, MAX, -1, MIN};
        for (int what : whatNot) {
            SAY.due("what " + what, x.liars(what), -3);
        }
        for (int what = 0; what < 3; what++) {
            SAY.due("no town, what " + what, new WayMayor().liars(what), -3);
        }
    }

    private static void threeOfPost(WayMayor x, int n, int many, int one, int other) {
        SAY.due(n + " hours: how many", x.post(n, 0), many);
        SAY.due(n + " hours: one", x.post(n, 1), one);
        SAY.due(n + " hours: other", x.post(n, 2), other);
    }

    private static void post() {
        SAY.of(24, "POST for n HOURS (1 to 60): the street that had best be SHUT from now on, of those that are not, or none, so "
                + "that most get there in these");
        WayMayor x = Check.inTown("town 4 5;street 0 1;street 1 2;street 3 1;person 1 5 1;stranger 0 2 1");
        threeOfPost(x, 1, 0, NONE, NONE);
        threeOfPost(x, 2, 0, NONE, NONE);
        threeOfPost(x, 3, 1, 1, 3);
        threeOfPost(x, 60, 20, 1, 3);
        x.shut(1, 3);
        threeOfPost(x, 3, 1, NONE, NONE);
        Sentences.hours(x, 3);
        SAY.due("got there", x.count(8), 1);
        threeOfPost(x, 3, 1, NONE, NONE);
        x = Check.inTown("town 2 1;street 0 1;person 0 1 0;stranger 0 1 1");
        x.shut(0, 1);
        threeOfPost(x, 2, 0, NONE, NONE);
        SAY.due("none is opened", x.streets(0), 0);
        // Nobody stands at 1, so that he goes on to 0 unless that street is shut.
        x = Check.inTown("town 4 9;street 0 1;street 1 2;street 3 1;stranger 3 2 1");
        threeOfPost(x, 3, 1, 0, 1);
        x = Check.inTown("town 8 9;street 5 4;street 5 7;street 6 7;person 7 1 0;person 5 1 1;stranger 4 5 20;"
                + "stranger 7 6 20");
        threeOfPost(x, 20, 2, NONE, NONE);
        // Who sends wrong at 5 sends to 7, unless that street is shut, the last but one.
        x = Check.inTown("town 8 9;street 4 5;street 5 6;street 5 7;street 6 7;person 5 1 1;person 7 1 1;stranger 4 6 20");
        threeOfPost(x, 3, 1, 5, 7);

        SAY.of(24, "POST what 0: how many, 1, 2: which (NONE: none). -2 without these, or a TOWN.");
        threeOfPost(Check.inTown("town 2 1"), 60, 0, NONE, NONE);
        int[] hoursNot = {0, 61, MAX, -1, MIN};
        int[] whatNot = {3, 4, MAX, -1, MIN};
        for (int i = 0; i < 5; i++) {
            SAY.due("n " + hoursNot[i], x.post(hoursNot[i], 0), -2);
            SAY.due("what " + whatNot[i], x.post(1, whatNot[i]), -2);
        }
        for (int what = 0; what < 3; what++) {
            SAY.due("no town, what " + what, new WayMayor().post(1, what), -2);
        }
    }

    private static void postOfSeveral() {
        SAY.of(24, "of several none, then the one of the least PLACE, then of the least other: how many; which.");
        WayMayor x = Check.inTown(PAIR + ";street 0 1");
        threeOfPost(x, 2, 1, NONE, NONE);
        x = Check.inTown("town 4 1;street 0 1;street 2 3;stranger 0 1 1");
        threeOfPost(x, 2, 1, NONE, NONE);
        // By 0 5 he goes to 6 at once, by 0 7 over 0.
        x = Check.inTown("town 8 9;street 7 0;street 6 0;street 6 5;street 5 0;person 0 1 1;stranger 5 6 20");
        threeOfPost(x, 3, 1, 0, 5);
        // By 1 5 he goes to 6 at once, by 0 7 over 1 and 0.
        x = Check.inTown("town 8 9;street 5 1;street 5 6;street 1 0;street 0 6;street 0 7;person 0 1 1;stranger 5 6 20");
        threeOfPost(x, 4, 1, 0, 7);
        threeOfPost(x, 3, 1, 1, 5);
        // By 0 6 stranger 1 gets there, by 0 7 stranger 0; both by no one street between two of the eight places.
        x = Check.inTown("town 8 9;street 0 6;street 0 7;street 5 7;stranger 7 5 20;stranger 0 7 20");
        threeOfPost(x, 3, 1, 0, 6);
    }

    private static void game() {
        SAY.of(25, "GAME of two PEOPLE for n turns (1 to 3): by turns, the first one first, one stands at a PLACE one street on, or "
                + "stays; then an HOUR passes");
        WayMayor x = Check.inTown(MIDDLE);
        int[] much = {1, 1, 1};
        int[] place = {0, 1, 1};
        for (int n = 1; n <= 3; n++) {
            SAY.due(n + " turns: how much", x.game(0, 1, n, 0), much[n - 1]);
            SAY.due(n + " turns: place", x.game(0, 1, n, 1), place[n - 1]);
        }
        SAY.due("the less kind one first", x.game(1, 0, 2, 0), 0);
        SAY.due("goes to 0", x.game(1, 0, 2, 1), 0);
        x.shut(0, 1);
        SAY.due("not by a street that is shut", x.game(0, 1, 1, 0), 0);
        x = Check.inTown("town 3 9;street 0 1;street 1 2;person 2 5 0;person 2 4 0;stranger 0 2 20");
        SAY.due("not two streets on", x.game(0, 1, 1, 0), 0);
        // The first one waits at 0, where he comes back to, as nobody can be at 1 in turn 1.
        x = Check.inTown("town 4 9;street 0 1;street 1 2;street 2 3;person 1 5 0;person 3 4 0;stranger 0 3 20");
        SAY.due("three turns", x.game(0, 1, 3, 0), 2);
        SAY.due("to 0", x.game(0, 1, 3, 1), 0);
        SAY.due("two turns", x.game(0, 1, 2, 0), 1);
        // The first one meets him at 1, and goes on with him to 2 in the third turn.
        x = Check.inTown("town 6 9;street 0 1;street 1 2;street 2 3;street 3 4;person 2 5 0;person 5 5 0;stranger 0 4 20");
        SAY.due("the third turn is the first one's", x.game(0, 1, 3, 0), 2);
        SAY.due("by 1", x.game(0, 1, 3, 1), 1);
        SAY.due("the second turn is the second one's, who meets him at 1", x.game(1, 0, 3, 0), -1);
        SAY.due("the first turn is not", x.game(1, 0, 1, 0), 0);

        SAY.of(25, "the first one wants to be ASKED in these as much oftener than the second one as can be, the second one as "
                + "little, if both do their best: how much; where the first one goes first (of several the least PLACE, where "
                + "they stand among them).");
        x = Check.inTown("town 3 1;street 0 1;street 1 2;person 1 5 0;person 0 4 0");
        SAY.due("nobody asks", x.game(0, 1, 3, 0), 0);
        SAY.due("of all three the least", x.game(0, 1, 3, 1), 0);
        SAY.due("where they stand is among them", x.game(1, 0, 3, 1), 0);
        x = Check.inTown("town 2 1;street 0 1;person 0 5 0;person 0 4 0;stranger 0 1 1");
        x.hour();
        SAY.due("in these alone", x.game(0, 1, 1, 0), 0);

        SAY.of(25, "GAME what 0: how much (below 0, too), 1: the PLACE. -1000 without these (unlike).");
        x = Check.inTown("town 2 1;street 0 1;person 0 5 0;person 0 4 0;stranger 0 1 1");
        SAY.due("below 0", x.game(1, 0, 1, 0), -1);
        SAY.due("the least all the same", x.game(1, 0, 1, 1), 0);
        x = Check.inTown(STUCK);
        SAY.due("three below 0", x.game(0, 1, 3, 0), -3);
        SAY.due("three above", x.game(1, 0, 3, 0), 3);
        int[] turnsNot = {0, 4, MAX, -1, MIN};
        int[] whatNot = {2, 3, MAX, -1, MIN};
        for (int i = 0; i < 5; i++) {
            SAY.due("n " + turnsNot[i], x.game(0, 1, turnsNot[i], 0), -1000);
            SAY.due("what " + whatNot[i], x.game(0, 1, 1, whatNot[i]), -1000);
        }
        SAY.due("alike", x.game(0, 0, 1, 0), -1000);
        SAY.due("alike", x.game(1, 1, 1, 1), -1000);
        SAY.due("person 2 of 2", x.game(0, 2, 1, 0), -1000);
        SAY.due("person 2 of 2", x.game(2, 0, 1, 0), -1000);
        for (int person : FAR_OFF) {
            SAY.due("first " + person, x.game(person, 0, 1, 0), -1000);
            SAY.due("second " + person, x.game(0, person, 1, 0), -1000);
        }
        SAY.due("no town", new WayMayor().game(0, 1, 1, 0), -1000);
    }

    private static void threeOfRests(WayMayor x, int n, int many, int one, int other) {
        SAY.due(n + " hours: how many", x.rests(0, 1, n, 0), many);
        SAY.due(n + " hours: of the first one", x.rests(0, 1, n, 1), one);
        SAY.due(n + " hours: of the second one", x.rests(0, 1, n, 2), other);
    }

    private static void rests() {
        SAY.of(26, "RESTS of two PEOPLE for n HOURS (1 to 20): each stands at one PLACE from now on: each has how often they are "
                + "ASKED in these: twos by which neither would have more by another one: how many; the first (by the first "
                + "one, then the second one).");
        WayMayor x = Check.inTown(MIDDLE);
        threeOfRests(x, 1, 3, 0, 0);
        threeOfRests(x, 2, 2, 0, 1);
        SAY.due("the other way round", x.rests(1, 0, 2, 0), 2);
        SAY.due("the other way round: first", x.rests(1, 0, 2, 1), 0);
        SAY.due("the other way round: second", x.rests(1, 0, 2, 2), 1);
        x = Check.inTown("town 8 1;person 7 5 0;person 6 5 0");
        threeOfRests(x, 20, 64, 0, 0);
        // He stays at 7: the kinder one has him wherever the other one stands.
        x = Check.inTown("town 8 1;person 0 5 0;person 0 4 0;stranger 7 0 1");
        threeOfRests(x, 20, 8, 7, 0);
        x.hour();
        threeOfRests(x, 1, 8, 7, 0);

        SAY.of(26, "RESTS what 0: how many, 1, 2: PLACES of the first (-2: there is none). NONE without these (unlike).");
        // Person 0 is asked only where 1 stands, person 1 only where 0 does not.
        x = Sentences.by("town 2 9;street 0 1;person 0 1 0;person 1 1 0;person 0 0 0;person 1 0 0;stranger 0 1 20;"
                + "stranger 1 0 20", "ask 5 if person=0 and others=2;ask 4 if person=1 and others=1;ask 1 if person>1");
        threeOfRests(x, 1, 0, -2, -2);
        int[] hoursNot = {0, 21, MAX, -1, MIN};
        int[] whatNot = {3, 4, MAX, -1, MIN};
        for (int i = 0; i < 5; i++) {
            SAY.due("n " + hoursNot[i], x.rests(0, 1, hoursNot[i], 0), NONE);
            SAY.due("what " + whatNot[i], x.rests(0, 1, 1, whatNot[i]), NONE);
        }
        SAY.due("alike", x.rests(0, 0, 1, 0), NONE);
        SAY.due("alike", x.rests(3, 3, 1, 1), NONE);
        SAY.due("person 4 of 4", x.rests(0, 4, 1, 0), NONE);
        SAY.due("person 4 of 4", x.rests(4, 0, 1, 0), NONE);
        for (int person : FAR_OFF) {
            SAY.due("first " + person, x.rests(person, 0, 1, 0), NONE);
            SAY.due("second " + person, x.rests(0, person, 1, 0), NONE);
        }
        SAY.due("no town", new WayMayor().rests(0, 1, 1, 0), NONE);
    }

    private static void shares(WayMayor x, int much, int... due) {
        for (int p = 0; p < due.length; p++) {
            SAY.due(much + " pence of " + p, x.pence(much, p), due[p]);
        }
    }

    private static void pence() {
        SAY.of(27, "PENCE (0 to 9999) among PEOPLE by how often they were ASKED, in all: each the part downwards; what is left, "
                + "one each, to those whose part lost most by that, of several the least first (nothing, if nobody was).");
        WayMayor x = Check.inTown(LINE);
        shares(x, 0, 0, 0, 0);
        shares(x, 9999, 0, 0, 0);
        Sentences.hours(x, 3);
        shares(x, 0, 0, 0, 0);
        shares(x, 1, 1, 0, 0);
        shares(x, 2, 1, 1, 0);
        shares(x, 3, 1, 1, 1);
        shares(x, 9999, 3333, 3333, 3333);
        shares(x, 9998, 3333, 3333, 3332);
        Sentences.hours(x, 2);
        // Asked 2, 1 and 1 times in all, in this term 1, 0 and 0.
        shares(x, 8, 4, 2, 2);
        shares(x, 9, 5, 2, 2);
        shares(x, 10, 5, 3, 2);
        shares(x, 11, 5, 3, 3);
        shares(x, 9999, 4999, 2500, 2500);
        x = Check.inTown(STUCK);
        x.hour();
        shares(x, 9999, 0, 9999);
        x = Check.inTown("town 2 1;person 0 1 0;person 0 2 0;person 0 3 0;person 0 4 0;person 0 5 0;person 0 6 0;"
                + "stranger 0 1 1");
        x.hour();
        x.collar(0, 9);
        x.hour();
        shares(x, 7, 4, 0, 0, 0, 0, 3);

        SAY.of(27, "PENCE of a PERSON; NONE without these.");
        x = Check.inTown(STUCK);
        x.hour();
        int[] muchNot = {10000, MAX, -1, MIN};
        for (int much : muchNot) {
            SAY.due("pence " + much, x.pence(much, 0), NONE);
            SAY.due("pence " + much, x.pence(much, 1), NONE);
        }
        SAY.due("person 2 of 2", x.pence(1, 2), NONE);
        for (int person : FAR_OFF) {
            SAY.due("person " + person, x.pence(1, person), NONE);
        }
        SAY.due("no town", new WayMayor().pence(0, 0), NONE);
    }
}
