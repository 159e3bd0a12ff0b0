/** Sentences that name a boundary case: promises 28 to 35, and of "Terms" NOTES, DRAWS and IMAGES. */
public final class EdgeNoteTest {
    private static final int NONE = WayMayor.NONE;
    private static final int MIN = Integer.MIN_VALUE;
    private static final int MAX = Integer.MAX_VALUE;
    private static final Sentences SAY = new Sentences("EdgeNoteTest");
    private static final int[] FAR_OFF = {6, 8, 64, MAX, -1, -2, MIN};
    /** Three people at one place; both strangers ask in even hours, and get there in odd ones. */
    private static final String CROWD = "town 2 5;street 0 1;person 0 3 0;person 0 9 0;person 0 1 0;"
            + "stranger 0 1 1;stranger 0 1 2";
    private static final String LINE = "town 4 3;street 0 1;street 1 2;street 2 3;"
            + "person 0 5 0;person 1 3 1;person 2 4 0;stranger 0 3 2";
    /** Who is not met at 0 goes on alone, and is there. */
    private static final String PAIR = "town 2 1;street 0 1;person 1 5 0;stranger 0 1 1";

    private EdgeNoteTest() {
    }

    public static void main(String[] args) {
        note();
        notes();
        ruled();
        look();
        seed();
        draws();
        markets();
        count();
        image();
        back();
        SAY.close();
    }

    private static void note() {
        SAY.of(28, "A NOTE (n NONE: there are none then, 0): how many");
        WayMayor x = Check.inTown(CROWD);
        SAY.due("none", x.note(NONE, 0, 0), 0);
        SAY.due("one", x.note(0, 0, 0), 1);
        SAY.due("the same once more", x.note(0, 0, 0), 2);
        SAY.due("the last ones", x.note(60, 1, 2), 3);
        SAY.due("nobody", x.note(60, 1, NONE), 4);
        SAY.due("none then, whoever is told", x.note(NONE, MIN, MAX), 0);
        SAY.due("none are", x.count(10), 0);
        SAY.due("none without a town", new WayMayor().note(NONE, 0, 0), 0);

        SAY.of(28, "-2, and nothing happens, without these (person NONE: nobody), or if there are 10.");
        x.note(0, 0, 1);
        String seen = Sentences.seen(x);
        int[] hoursNot = {61, 999, MAX, -2, MIN};
        for (int n : hoursNot) {
            SAY.due("n " + n, x.note(n, 0, 0), -2);
        }
        SAY.due("stranger 2 of 2", x.note(0, 2, 0), -2);
        SAY.due("person 3 of 3", x.note(0, 0, 3), -2);
        for (int number : FAR_OFF) {
            SAY.due("stranger " + number, x.note(0, number, 0), -2);
            if (number != NONE) {
                SAY.due("person " + number, x.note(0, 0, number), -2);
            }
        }
        SAY.holds("nothing happens", seen.equals(Sentences.seen(x)));
        for (int i = 2; i <= 10; i++) {
            SAY.due("note", x.note(0, 0, 1), i);
        }
        SAY.due("there are 10", x.note(0, 0, 1), -2);
        SAY.due("another one", x.note(0, 0, 2), -2);
        SAY.due("10", x.count(10), 10);
        SAY.due("all are so", x.ruled(0), 1);
        SAY.due("none then", x.note(NONE, 0, 0), 0);
        SAY.due("one again", x.note(0, 0, 0), 1);
        SAY.due("no town", new WayMayor().note(0, 0, NONE), -2);
    }

    private static void notes() {
        SAY.of(28, "NOTES 0 to 9, told: in the n-th HOUR of all (0 to 60) a STRANGER ASKED a PERSON, or nobody (NONE).");
        so("hour 0", 0, 0, 1, 1);
        so("hour 0, not so", 0, 0, 0, 0);
        so("hour 60", 60, 1, 1, 1);
        so("hour 60, not so", 60, 1, NONE, 0);
        so("hour 59: he has got there, and asked nobody", 59, 0, NONE, 1);
        so("hour 59, not so", 59, 0, 1, 0);
        WayMayor x = Check.inTown("town 2 1;person 1 1 0;stranger 0 1 1;stranger 1 0 20");
        x.note(3, 0, NONE);
        SAY.due("he is there, and nobody with him", x.ruled(0), 1);
        x.hour();
        x.hunt(1);
        x.note(19, 1, 0);
        SAY.due("as if nobody had been hunted", x.ruled(0), 1);
        x = Check.inTown(CROWD);
        x.note(0, 0, 1);
        x.note(2, 0, 1);
        for (int i = 3; i <= 9; i++) {
            x.note(4, 1, 1);
        }
        SAY.due("nine are so", x.ruled(0), 1);
        x.note(4, 0, 2);
        SAY.due("the tenth is not", x.ruled(0), 0);
    }

    private static void so(String what, int n, int stranger, int person, int want) {
        WayMayor x = Check.inTown(CROWD);
        x.note(n, stranger, person);
        SAY.due(what, x.ruled(0), want);
    }

    private static void twoOfRuled(WayMayor x, String when, int many, int first) {
        SAY.due(when + ": how many", x.ruled(0), many);
        SAY.due(when + ": the first", x.ruled(1), first);
    }

    private static void ruled() {
        SAY.of(29, "RULED: which of the RULES, and of none, so that from the begin on, all as the text told it, all NOTES are so: "
                + "how many; the first (none ahead of 0, told as NONE).");
        WayMayor x = Check.inTown(CROWD);
        twoOfRuled(x, "no rule: none", 1, NONE);
        for (int i = 0; i < 5; i++) {
            Check.rule(x, "ask kind");
        }
        Check.rule(x, "ask 10-kind");
        twoOfRuled(x, "six rules and none", 7, NONE);
        x.note(0, 0, 1);
        twoOfRuled(x, "by the kindest", 6, NONE);
        x.note(NONE, 0, 0);
        x.note(2, 1, 2);
        twoOfRuled(x, "the last rule alone", 1, 5);
        x.force(5);
        x.stand(2, 1);
        x.collar(2, 9);
        x.shut(0, 1);
        Sentences.hours(x, 3);
        twoOfRuled(x, "as the text told it, whichever is in force", 1, 5);
        x = Sentences.by(CROWD, "ask person");
        x.note(0, 0, 2);
        twoOfRuled(x, "rule 0 alone", 1, 0);
        x = Check.inTown("town 3 9;street 0 1;street 0 2;person 0 5 1;person 1 5 0;person 2 5 0;stranger 0 1 1");
        x.note(1, 0, 2);
        twoOfRuled(x, "told wrong", 1, NONE);

        SAY.of(29, "RULED what 0: how many, 1: the first (NONE: none; -2: there is none such). -3 for others, or without a TOWN.");
        x.note(0, 0, 1);
        twoOfRuled(x, "none such", 0, -2);
        int[] whatNot = {2, 3, MAX, -1, MIN};
        for (int what : whatNot) {
            SAY.due("what " + what, x.ruled(what), -3);
        }
        SAY.due("no town", new WayMayor().ruled(0), -3);
        SAY.due("no town", new WayMayor().ruled(1), -3);
    }

    private static void twoOfLook(WayMayor x, int n, int stranger, int many) {
        SAY.due("hour " + n + ": the stranger", x.look(n, 0), stranger);
        SAY.due("hour " + n + ": how many", x.look(n, 1), many);
    }

    private static void look() {
        SAY.of(30, "LOOK for the n-th HOUR: the STRANGER by whom he ASKS in it these part best: the most alike are fewest, of several "
                + "the least; how many.");
        WayMayor x = Check.inTown(CROWD);
        Check.rule(x, "ask 10-kind");
        Check.rule(x, "ask 9-person");
        Check.rule(x, "ask kind if stranger=0");
        // Of stranger 0: person 1 by none and by rule 2; of stranger 1 all four part.
        twoOfLook(x, 0, 1, 1);
        twoOfLook(x, 60, 1, 1);
        twoOfLook(x, 59, 0, 4);
        x.note(0, 1, NONE);
        twoOfLook(x, 0, 0, 1);
        twoOfLook(x, 2, 0, 1);
        x.note(NONE, 0, 0);
        x.note(0, 0, 1);
        twoOfLook(x, 0, 1, 1);
        x.stand(0, 1);
        x.hour();
        twoOfLook(x, 0, 1, 1);
        x = Check.inTown(CROWD);
        for (int i = 0; i < 6; i++) {
            Check.rule(x, "ask kind");
        }
        twoOfLook(x, 0, 0, 7);
        x = Check.inTown(CROWD);
        Check.rule(x, "ask 9-person if stranger=1;ask kind");
        Check.rule(x, "ask 9-person if stranger=1;ask kind");
        // Of stranger 1 two are alike and one is not; of stranger 0 all three are.
        twoOfLook(x, 0, 1, 2);
        SAY.due("without a rule: none alone", Check.inTown(CROWD).look(0, 1), 1);
        twoOfLook(Sentences.by(CROWD, "ask 10-kind if stranger=0;ask kind"), 0, 0, 1);
        twoOfLook(Sentences.by(CROWD, "ask 10-kind"), 0, 0, 1);
        x = Check.inTown("town 2 1;person 0 1 0;person 0 2 0" + ";stranger 0 1 1".repeat(5));
        for (int i = 0; i < 6; i++) {
            Check.rule(x, i < 3 ? "ask 1 if stranger=4;ask kind" : "ask kind");
        }
        // Of stranger 4 three are alike, and four; of the others all seven.
        twoOfLook(x, 0, 4, 4);
        String[] rules = {"ask kind", "ask kind", "ask kind if stranger=0;ask 9-person", "ask 9-person",
            "ask person if stranger=0;ask 9-person"};
        x = Check.inTown(CROWD);
        for (String rule : rules) {
            Check.rule(x, rule);
        }
        // Of stranger 0 four, one and one are alike, of 1 three and three: not the most parts, the least of the greatest.
        twoOfLook(x, 0, 1, 3);

        SAY.of(30, "LOOK (n 0 to 60) what 0: the STRANGER, 1: how many; -2: no RULE is so, or there are no STRANGERS. NONE without "
                + "these, or a TOWN.");
        x = Sentences.by(CROWD, "ask kind");
        x.note(0, 0, 2);
        twoOfLook(x, 0, -2, -2);
        twoOfLook(Check.inTown("town 2 1;person 0 0 0"), 0, -2, -2);
        int[] hoursNot = {61, MAX, -1, MIN};
        int[] whatNot = {2, MAX, -1, MIN};
        for (int i = 0; i < 4; i++) {
            SAY.due("n " + hoursNot[i], x.look(hoursNot[i], 0), NONE);
            SAY.due("what " + whatNot[i], x.look(0, whatNot[i]), NONE);
        }
        SAY.due("no town", new WayMayor().look(0, 0), NONE);
    }

    private static void seed() {
        SAY.of(31, "x becomes a number: what it was; NONE, and nothing happens, below 0.");
        WayMayor x = new WayMayor();
        SAY.due("0 at first", x.seed(MAX), 0);
        SAY.due("below 0", x.seed(-1), NONE);
        SAY.due("below 0", x.seed(MIN), NONE);
        SAY.due("nothing happens", x.count(12), MAX);
        SAY.due("0", x.seed(0), MAX);
        SAY.due("0 once more", x.seed(0), 0);
        SAY.due("1", x.seed(1), 0);
        SAY.due("it is", x.count(12), 1);
    }

    private static WayMayor seeded(String town, int x) {
        WayMayor way = Check.inTown(town);
        way.seed(x);
        return way;
    }

    private static void draws() {
        SAY.of(32, "DRAWS: x (0 to 2147483647; 0 at first) becomes x * 1103515245 + 12345, of 2147483648 the rest; a DRAW is x / "
                + "65536.");
        // By x = 2147483647 the draws are 15929, 4409 and 9862: below 30 of 100, person 0, place 0.
        WayMayor x = seeded(PAIR, MAX);
        SAY.due("29 is not below 29", x.markets(1, 1, 29, 1), 0);
        SAY.due("29 is below 30", x.markets(1, 1, 30, 1), 1);
        // By x = 0 they are 0, 21468, 9988, then 22117, 3498, 16927.
        x = Check.inTown(PAIR);
        SAY.due("0 is not below 0", x.markets(1, 1, 0, 1), 0);
        SAY.due("0 is below 1", x.markets(1, 1, 1, 1), 1);
        // By x = 645 they are 14499, 14219, 25552.
        x = seeded(PAIR, 645);
        SAY.due("99 is not below 99", x.markets(1, 1, 99, 1), 0);
        SAY.due("99 is below 100", x.markets(1, 1, 100, 1), 1);
    }

    private static void markets() {
        SAY.of(32, "MARKETS m times (1 to 10) n HOURS (1 to 60) from now on: ahead of each a DRAW mod 100; is it below p (0 to 100), "
                + "and are there PEOPLE, a DRAW mod how many, then a DRAW mod how many PLACES: that one stands there");
        // By x = 0 the draws are 0, 21468, 9988, 22117, 3498, 16927, 16045, 19741, 12122.
        WayMayor x = Check.inTown(PAIR);
        SAY.due("at 0, 1 and 0 in three hours", x.markets(1, 3, 100, 1), 2);
        SAY.due("got there", x.markets(1, 3, 100, 0), 1);
        SAY.due("17 is not below 17: stays at 0", x.markets(1, 3, 17, 1), 2);
        SAY.due("17 is below 18: back at 1", x.markets(1, 3, 18, 1), 1);
        int[] often = {1, 1, 2};
        for (int m = 1; m <= 3; m++) {
            SAY.due(m + " times one hour, x goes on", x.markets(m, 1, 100, 1), often[m - 1]);
            SAY.due(m + " times one hour, each from now on", x.markets(m, 1, 100, 0), 0);
        }
        // By x = 1 they are 16838, 5758 and 10113: person 1 of 3, place 1 of 4.
        String three = "town 4 9;person 3 5 0;person 3 5 0;person 3 5 0;stranger 1 0 20";
        SAY.due("the person, then the place", seeded(three, 1).markets(1, 1, 39, 1), 1);
        SAY.due("38 is not below 38", seeded(three, 1).markets(1, 1, 38, 1), 0);
        x = Check.inTown("town 2 1;street 0 1;stranger 0 1 1");
        SAY.due("nobody to stand anywhere", x.markets(10, 60, 100, 0), 300);
        SAY.due("nobody to be asked", x.markets(10, 60, 100, 1), 0);

        SAY.of(32, "how many get there in these; how often anybody is ASKED in these, all together (x as it was).");
        x = Check.inTown("town 2 1;street 0 1;person 0 5 0;stranger 0 1 1");
        SAY.due("all together", x.markets(10, 60, 0, 0), 300);
        SAY.due("all together", x.markets(10, 60, 0, 1), 300);
        Sentences.hours(x, 3);
        SAY.due("in these alone: got there", x.markets(1, 1, 0, 0), 1);
        SAY.due("in these alone: asked", x.markets(1, 1, 0, 1), 0);
        x.seed(5);
        x.markets(10, 60, 100, 0);
        SAY.due("x as it was", x.count(12), 5);
        SAY.due("who stands as he stood", x.person(0, 0), 0);
        x = Check.inTown("town 2 1;person 0 5 0;person 0 4 0;stranger 0 1 1;stranger 0 1 1");
        SAY.due("anybody", x.markets(1, 60, 0, 1), 120);

        SAY.of(32, "MARKETS what 0: how many, 1: how often. NONE without these, or a TOWN.");
        int[] timesNot = {0, 11, MAX, -1, MIN};
        int[] hoursNot = {0, 61, MAX, -1, MIN};
        int[] belowNot = {101, 200, MAX, -1, MIN};
        int[] whatNot = {2, 3, MAX, -1, MIN};
        for (int i = 0; i < 5; i++) {
            SAY.due("m " + timesNot[i], x.markets(timesNot[i], 1, 0, 0), NONE);
            SAY.due("n " + hoursNot[i], x.markets(1, hoursNot[i], 0, 0), NONE);
            SAY.due("p " + belowNot[i], x.markets(1, 1, belowNot[i], 0), NONE);
            SAY.due("what " + whatNot[i], x.markets(1, 1, 0, whatNot[i]), NONE);
        }
        SAY.due("no town", new WayMayor().markets(1, 1, 0, 0), NONE);
        SAY.due("no town", new WayMayor().markets(1, 1, 100, 1), NONE);
    }

    private static void count() {
        SAY.of(33, "What 0: PLACES, 1: TERM, 2: PEOPLE, 3: STRANGERS, 4: RULES, 5: the RULE IN FORCE (NONE), 6: HOUR, 7: who has the "
                + "CHAIN (NONE: nobody), 8: how many have got there, 9: how often anybody was ASKED, in all, 10: NOTES, 11: "
                + "ACTS that can be UNDONE, 12: x, 13: bytes of the TAPE.");
        WayMayor x = Sentences.by(LINE, "ask kind");
        Check.rule(x, "ask 1");
        Sentences.hours(x, 4);
        x.collar(0, 4);
        x.note(3, 0, NONE);
        x.seed(9);
        x.feed(0, 0, 0, 0, 0);
        int[] counts = {4, 3, 3, 1, 2, 0, 4, 0, 1, 3, 1, 5, 9, 20};
        for (int what = 0; what < counts.length; what++) {
            SAY.due("count " + what, x.count(what), counts[what]);
        }
        x.force(NONE);
        SAY.due("none in force", x.count(5), NONE);
        SAY.due("nobody has the chain", Check.inTown(LINE).count(7), NONE);

        SAY.of(33, "NONE for others; 7 NONE without a TOWN.");
        int[] whatNot = {14, 15, MAX, -1, MIN};
        for (int what : whatNot) {
            SAY.due("count " + what, x.count(what), NONE);
        }
        SAY.due("no town", new WayMayor().count(7), NONE);
    }

    private static void image() {
        SAY.of(34, "An IMAGE is made: the HOUR; NONE without it.");
        WayMayor x = Check.inTown(LINE);
        for (int k = 0; k <= 3; k++) {
            SAY.due("image " + k, x.image(k), k);
            x.hour();
        }
        for (int k = 3; k >= 0; k--) {
            SAY.due("back " + k, x.back(k), k);
        }
        int[] not = {4, 5, MAX, -1, MIN};
        for (int k : not) {
            SAY.due("image " + k, x.image(k), NONE);
        }
        SAY.due("without a town", new WayMayor().image(0), 0);
        x.hour();
        SAY.due("written over", x.image(0), 1);
        x.hour();
        SAY.due("back", x.back(0), 1);
        SAY.due("the others stay", x.back(3), 3);
    }

    private static void back() {
        SAY.of(35, "IMAGES 0 to 3: all but the RULES and the TAPE, as it is (the RULE IN FORCE, what can be UNDONE, too); gone back "
                + "to, it is as it was (these stay).");
        WayMayor x = Sentences.by(LINE, "ask 10-kind");
        x.seed(8);
        Sentences.hours(x, 22);
        x.note(1, 0, 1);
        x.note(0, 0, 0);
        x.stand(0, 3);
        x.shut(1, 2);
        x.collar(2, 0);
        String seen = Sentences.seen(x);
        x.image(2);
        x.force(NONE);
        x.seed(3);
        x.note(NONE, 0, 0);
        x.note(2, 0, NONE);
        Sentences.hours(x, 23);
        Check.town(x, CROWD);
        Sentences.hours(x, 2);
        x.note(0, 1, NONE);
        SAY.due("back", x.back(2), 22);
        SAY.holds("all as it was", seen.equals(Sentences.seen(x)));
        for (int i = 19; i >= 0; i--) {
            SAY.due("what can be undone", x.undo(), i);
        }
        SAY.due("to hour 5", x.count(6), 5);
        SAY.due("no more", x.undo(), -2);
        undoneAlike(0);
        undoneAlike(3);
        undoneAlike(20);
        undoneAlike(33);
        SAY.due("once more", x.back(2), 22);
        SAY.holds("the image stays as it was", seen.equals(Sentences.seen(x)));
        Check.rule(x, "ask 1");
        x.force(1);
        Check.feed(x, "abc");
        x.back(2);
        SAY.due("the rules stay", x.count(4), 2);
        SAY.due("the tape stays", x.count(13), 3);
        SAY.due("the rule in force does not", x.count(5), 0);
        x.hour();
        x.image(3);
        SAY.due("another one", x.back(2), 22);
        SAY.due("and that one", x.back(3), 23);
        WayMayor y = new WayMayor();
        y.image(1);
        Check.town(y, LINE);
        y.hour();
        SAY.due("no town", y.back(1), 0);
        SAY.due("no places", y.count(0), 0);
        SAY.due("no hour passes", y.hour(), NONE);
        SAY.due("nothing to be undone", y.undo(), -2);

        SAY.of(35, "All is as in an IMAGE: the HOUR; NONE, and nothing happens, if it was never made, or without it.");
        seen = Sentences.seen(x);
        int[] not = {0, 1, 4, MAX, -1, MIN};
        for (int k : not) {
            SAY.due("back " + k, x.back(k), NONE);
        }
        SAY.holds("nothing happens", seen.equals(Sentences.seen(x)));
        SAY.due("none made", new WayMayor().back(0), NONE);
    }

    /** What can be undone behind so many acts is the same for one that went away from there, and back. */
    private static void undoneAlike(int acts) {
        WayMayor stays = Check.inTown(LINE);
        WayMayor goes = Check.inTown(LINE);
        for (int i = 0; i < acts; i++) {
            int place = (stays.person(i % 3, 0) + 1) % 4;
            SAY.holds("an act", i % 2 == 0 ? stays.hour() == goes.hour()
                    : stays.stand(i % 3, place) == goes.stand(i % 3, place));
        }
        goes.image(0);
        for (int i = 0; i < 27; i++) {
            goes.collar(0, i % 5);
            goes.hour();
        }
        goes.back(0);
        for (int i = 0; i <= acts; i++) {
            SAY.holds(acts + " acts, " + i + " undone", Sentences.seen(stays).equals(Sentences.seen(goes)));
            SAY.due(acts + " acts: undo", goes.undo(), stays.undo());
        }
    }
}
