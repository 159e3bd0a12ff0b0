/** Sentences that name a boundary case: promises 7 to 16, and of "Terms" a WAY, an HOUR and the ACTS. */
public final class EdgeHourTest {
    private static final int NONE = WayMayor.NONE;
    private static final int MIN = Integer.MIN_VALUE;
    private static final int MAX = Integer.MAX_VALUE;
    private static final Sentences SAY = new Sentences("EdgeHourTest");
    /** A line of four places: who comes to 0 asks 0, 1 (who sends him to 2 all the same) and 2. */
    private static final String LINE = "town 4 3;street 0 1;street 1 2;street 2 3;"
            + "person 0 5 0;person 1 3 1;person 2 4 0;stranger 0 3 2";
    /** Three people at one place, two strangers. */
    private static final String CROWD = "town 2 5;street 0 1;person 0 3 0;person 0 9 0;person 0 1 0;"
            + "stranger 0 1 1;stranger 0 1 2";
    private static final String FULL = "town 8 1;street 0 7;street 1 7;street 2 7;street 3 7;street 4 7;street 5 7;"
            + "street 6 7;person 0 0 0;person 1 1 0;person 2 2 0;person 3 3 0;person 4 4 0;person 5 5 1;"
            + "stranger 0 7 1;stranger 1 7 2;stranger 2 7 3;stranger 3 7 4;stranger 4 7 20";

    private EdgeHourTest() {
    }

    public static void main(String[] args) {
        person();
        stranger();
        streets();
        before();
        hour();
        coming();
        byNumbers();
        gettingThere();
        askingByRule();
        askingTheKindest();
        goingRight();
        goingWrong();
        goingAlone();
        term();
        hourAtMost();
        stand();
        collar();
        shut();
        hunt();
        undo();
        SAY.close();
    }

    private static void person() {
        SAY.of(7, "Of a PERSON what 0: PLACE, 1: KIND, 2: WRONG, 3: how often ASKED in this TERM, 4: in all, "
                + "5: how often they had the CHAIN.");
        WayMayor x = Check.inTown(LINE);
        Sentences.hours(x, 5);
        int[][] due = {{0, 5, 0, 1, 2, 1}, {1, 3, 1, 0, 1, 0}, {2, 4, 0, 0, 1, 0}};
        for (int p = 0; p < 3; p++) {
            for (int what = 0; what < 6; what++) {
                SAY.due("person " + p + " what " + what, x.person(p, what), due[p][what]);
            }
        }

        SAY.of(7, "NONE without these.");
        int[] nobody = {3, 6, MAX, -1, MIN};
        int[] nothing = {6, 7, MAX, -1, MIN};
        for (int i = 0; i < 5; i++) {
            SAY.due("person " + nobody[i], x.person(nobody[i], 0), NONE);
            SAY.due("what " + nothing[i], x.person(0, nothing[i]), NONE);
        }
        x = Check.inTown(FULL);
        SAY.due("person 5 of 6", x.person(5, 0), 5);
        SAY.due("person 6 of 6", x.person(6, 0), NONE);
        SAY.due("nobody", Check.inTown("town 2 1").person(0, 1), NONE);
        SAY.due("no town", new WayMayor().person(0, 0), NONE);
    }

    private static void stranger() {
        SAY.of(8, "Of a STRANGER what 0: FROM, 1: TO, 2: EVERY, 3: where he is (NONE: not in the TOWN).");
        WayMayor x = Check.inTown(LINE);
        SAY.due("not yet in the town", x.stranger(0, 3), NONE);
        x.hour();
        int[] due = {0, 3, 2, 1};
        for (int what = 0; what < 4; what++) {
            SAY.due("what " + what, x.stranger(0, what), due[what]);
        }
        Sentences.hours(x, 3);
        SAY.due("not any more", x.stranger(0, 3), NONE);

        SAY.of(8, "-2 without these.");
        int[] nobody = {1, 5, MAX, -1, MIN};
        int[] nothing = {4, 5, MAX, -1, MIN};
        for (int i = 0; i < 5; i++) {
            SAY.due("stranger " + nobody[i], x.stranger(nobody[i], 3), -2);
            SAY.due("what " + nothing[i], x.stranger(0, nothing[i]), -2);
        }
        x = Check.inTown(FULL);
        SAY.due("stranger 4 of 5", x.stranger(4, 2), 20);
        SAY.due("stranger 5 of 5", x.stranger(5, 2), -2);
        SAY.due("no town", new WayMayor().stranger(0, 0), -2);
    }

    private static void streets() {
        SAY.of(9, "PLACES by a street that is not SHUT, as bits");
        WayMayor x = Check.inTown(FULL);
        SAY.due("of 7", x.streets(7), 127);
        SAY.due("of 0", x.streets(0), 128);
        x.shut(7, 0);
        SAY.due("of 7", x.streets(7), 126);
        SAY.due("of 0", x.streets(0), 0);
        x.shut(0, 7);
        SAY.due("no more", x.streets(7), 127);
        SAY.due("none told", Check.inTown("town 2 1").streets(1), 0);

        SAY.of(9, "NONE without that PLACE.");
        int[] not = {8, 64, MAX, -1, -8, MIN};
        for (int place : not) {
            SAY.due("place " + place, x.streets(place), NONE);
        }
        SAY.due("2 of 2", Check.inTown("town 2 1;street 0 1").streets(2), NONE);
        SAY.due("no town", new WayMayor().streets(0), NONE);
    }

    private static void before() {
        SAY.of(10, "How often a STRANGER has ASKED a PERSON; NONE without these.");
        WayMayor x = Check.inTown(CROWD);
        SAY.due("not yet", x.before(0, 1), 0);
        Sentences.hours(x, 6);
        SAY.due("in all, not in this term", x.before(0, 1), 3);
        SAY.due("the other one", x.before(1, 1), 3);
        SAY.due("nobody asked 0", x.before(0, 0), 0);
        int[] nobody = {2, 5, MAX, -1, MIN};
        int[] neither = {3, 6, MAX, -1, MIN};
        for (int i = 0; i < 5; i++) {
            SAY.due("stranger " + nobody[i], x.before(nobody[i], 0), NONE);
            SAY.due("person " + neither[i], x.before(0, neither[i]), NONE);
        }
        x = Check.inTown(FULL);
        SAY.due("the last ones", x.before(4, 5), 0);
        SAY.due("no stranger 5", x.before(5, 5), NONE);
        SAY.due("no person 6", x.before(4, 6), NONE);
        SAY.due("no town", new WayMayor().before(0, 0), NONE);
    }

    private static void hour() {
        SAY.of(11, "An HOUR: how many ASK");
        WayMayor x = Check.inTown(FULL);
        SAY.due("all five", x.hour(), 5);
        SAY.due("all get there", x.hour(), 0);
        SAY.due("they come again, by 1 and by 2", x.hour(), 2);
        SAY.due("another one does not", x.stranger(4, 3), NONE);
        x = Sentences.by(FULL, "ask 1 if person>2");
        SAY.due("who asks nobody does not count", x.hour(), 2);
        SAY.due("without strangers", Check.inTown("town 2 1;person 0 1 0").hour(), 0);

        SAY.of(11, "NONE, and nothing happens, without a TOWN, or at HOUR 999.");
        x = new WayMayor();
        SAY.due("no town", x.hour(), NONE);
        SAY.due("no act", x.count(11), 0);
        SAY.due("no hour", x.count(6), 0);
        // It takes more calls to come to it than an object is promised to be used for.
        x = Check.inTown(LINE);
        Sentences.hours(x, 998);
        SAY.due("hour 998", x.count(6), 998);
        SAY.holds("the last one", x.hour() >= 0 && x.count(6) == 999);
        String seen = Sentences.seen(x);
        SAY.due("at hour 999", x.hour(), NONE);
        SAY.holds("nothing happens", seen.equals(Sentences.seen(x)));
        SAY.due("the act ahead is undone", x.undo(), 19);
        SAY.due("hour", x.count(6), 998);
    }

    private static void coming() {
        SAY.of(11, "An HOUR: (1) Each STRANGER who is not in the TOWN comes, at FROM, if the rest of HOUR by EVERY is 0.");
        // He is told there is no way, and stays at 0 for good.
        WayMayor x = Check.inTown("town 3 9;street 1 2;person 0 5 0;stranger 0 2 3");
        SAY.due("at hour 0", x.hour(), 1);
        x.hunt(0);
        SAY.due("not at hour 1", x.hour(), 0);
        SAY.due("not at hour 2", x.hour(), 0);
        SAY.due("not in the town", x.stranger(0, 3), NONE);
        SAY.due("at hour 3", x.hour(), 1);
        SAY.due("at 0", x.stranger(0, 3), 0);
        x = Check.inTown("town 2 9;person 0 5 0;stranger 0 1 20");
        x.hour();
        x.hunt(0);
        for (int h = 1; h < 20; h++) {
            SAY.due("every 20, hour " + h, x.hour(), 0);
        }
        SAY.due("hour 20", x.hour(), 1);
        x = Check.inTown("town 2 9;person 0 5 0;stranger 0 1 1");
        for (int h = 0; h < 4; h++) {
            SAY.due("every 1, hour " + h, x.hour(), 1);
            x.hunt(0);
        }
        x = Check.inTown(LINE);
        Sentences.hours(x, 3);
        SAY.due("who is in the town does not come", x.stranger(0, 3), 3);
        SAY.due("he asked each once", x.before(0, 0), 1);
    }

    private static void byNumbers() {
        SAY.of(11, "(2) STRANGERS in the TOWN, by numbers, each by how all is then");
        WayMayor x = Sentences.by(CROWD, "ask 5-asked");
        SAY.due("both ask", x.hour(), 2);
        SAY.due("0 the first one", x.before(0, 0), 1);
        SAY.due("1 another one", x.before(1, 1), 1);
        // Stranger 0 is there at the hour at which 1 asks.
        String town = "town 3 9;street 0 1;street 1 2;person 0 1 0;person 1 1 0;";
        x = Sentences.by(town + "stranger 0 1 20;stranger 0 2 20", "ask 1 if come=1 or hour=0");
        x.hour();
        SAY.due("1 knows that 0 has got there", x.hour(), 1);
        x = Sentences.by(town + "stranger 0 2 20;stranger 0 1 20", "ask 1 if come=1 or hour=0");
        x.hour();
        SAY.due("0 does not know it of 1", x.hour(), 0);
        // All come ahead of all asking: what 0 asks does not matter for whether 1 comes.
        x = Sentences.by(CROWD, "ask 1 if stranger=1 and person=2");
        x.hour();
        SAY.due("0 goes on alone", x.stranger(0, 3), 1);
        SAY.due("1 asks", x.before(1, 2), 1);
    }

    private static void gettingThere() {
        SAY.of(11, "who is at TO has got there, and is not in the TOWN any more.");
        WayMayor x = Check.inTown("town 2 1;street 0 1;person 0 5 0;person 1 5 0;stranger 0 1 1");
        x.hour();
        SAY.due("at the place, not yet there", x.count(8), 0);
        SAY.due("where he is", x.stranger(0, 3), 1);
        SAY.due("there he does not ask", x.hour(), 0);
        SAY.due("got there", x.count(8), 1);
        SAY.due("not in the town", x.stranger(0, 3), NONE);
        SAY.due("nobody was asked there", x.person(1, 4), 0);
        SAY.due("he comes again only in the next hour", x.hour(), 1);
        SAY.due("where he is", x.stranger(0, 3), 1);
        SAY.due("once alone", x.count(8), 1);
    }

    private static void asked(String rule, int want) {
        WayMayor x = Sentences.by("town 2 5;street 0 1;person 0 3 0;person 0 9 0;person 0 1 0;person 1 9 0;"
                + "stranger 0 1 20", rule);
        int got = NONE;
        x.hour();
        for (int p = 0; p < 4; p++) {
            got = x.before(0, p) > 0 ? p : got;
        }
        SAY.due(rule, got, want);
        SAY.due(rule + ": how often", x.count(9), want == NONE ? 0 : 1);
    }

    private static void askingByRule() {
        SAY.of(11, "Another one ASKS that PERSON of those who stand where he is for whom the SUM of the RULE IN FORCE's "
                + "first CLAUSE without a TEST, or whose TEST holds (0 without), is greatest");
        asked("ask kind", 1);
        asked("ask person+1", 2);
        asked("ask 9 if person=3", NONE);
        asked("ask 1 if kind>5;ask 2 if kind>2;ask 3", 2);
        asked("ask 1 if kind>5;ask 2;ask 3 if kind=1", 0);
        asked("ask person;ask 9", 2);
        asked("ask 0 if person=0;ask 5", 1);
        asked("ask 5 if kind>9", NONE);
        asked("ask 5 if kind>9;ask 5 if kind=1", 2);
        asked("ask 65536*65536 if person=2;ask 99999", 2);

        SAY.of(11, "if it is above 0, of several the least (nobody, if none is such)");
        asked("ask 1", 0);
        asked("ask 0", NONE);
        asked("ask 0-1", NONE);
        asked("ask 0-kind", NONE);
        asked("ask kind-8", 1);
        asked("ask kind-9", NONE);
        asked("ask 5 if person>0", 1);
        asked("ask 32768*32768*32768*32768*8", NONE);
        asked("ask 32768*32768*32768*32768*8-1 if person=2;ask 99999", 2);
    }

    private static void kindest(int[] kinds, int want) {
        StringBuilder town = new StringBuilder("town 2 5;street 0 1;stranger 0 1 20;person 1 9 0");
        for (int kind : kinds) {
            town.append(";person 0 ").append(kind).append(" 0");
        }
        WayMayor x = Check.inTown(town.toString());
        int asks = x.hour();
        SAY.due("asks", asks, want == NONE ? 0 : 1);
        for (int p = 0; p < x.count(2); p++) {
            SAY.due("person " + p, x.before(0, p), p - 1 == want && want != NONE ? 1 : 0);
        }
    }

    private static void askingTheKindest() {
        SAY.of(11, "without a RULE the KINDEST, of several the least.");
        kindest(new int[] {3, 9, 1}, 1);
        kindest(new int[] {3, 9, 9}, 1);
        kindest(new int[] {9, 9, 9}, 0);
        kindest(new int[] {0, 0}, 0);
        kindest(new int[] {0, 1}, 1);
        kindest(new int[] {0}, 0);
        kindest(new int[] {}, NONE);
        WayMayor x = Sentences.by(CROWD, "ask 10-kind");
        x.force(NONE);
        x.hour();
        SAY.due("though there is one, none is in force", x.before(0, 1), 1);
    }

    private static void goingRight() {
        SAY.of(11, "Of a PERSON who is not WRONG he goes to the first PLACE on a WAY to TO, of several the least (stays, if "
                + "there is no way)");
        String town = "town 7 9;street 4 0;street 0 1;street 1 5;street 4 3;street 3 5;street 4 2;street 2 5;"
                + "person 4 0 0;stranger 4 5 20";
        WayMayor x = Check.inTown(town);
        x.hour();
        SAY.due("to 2, not 3, and not by the longer way", x.stranger(0, 3), 2);
        x = Check.inTown(town);
        x.shut(2, 5);
        x.hour();
        SAY.due("to 3", x.stranger(0, 3), 3);
        x = Check.inTown(town);
        x.shut(2, 5);
        x.shut(3, 4);
        x.hour();
        SAY.due("by the longer way", x.stranger(0, 3), 0);
        x = Check.inTown(town + ";street 5 4");
        x.hour();
        SAY.due("at once", x.stranger(0, 3), 5);
        x = Check.inTown("town 3 9;street 0 1;person 0 0 0;stranger 0 2 20");
        SAY.due("he asks", x.hour(), 1);
        SAY.due("stays", x.stranger(0, 3), 0);
        SAY.due("asks again", x.hour(), 1);
        SAY.due("before", x.before(0, 0), 2);

        SAY.of(21, "A WAY from one PLACE to another: as few streets, one behind the other, as can be, that are not SHUT.");
        x = Check.inTown("town 8 1;street 0 1;street 1 2;street 2 3;street 3 4;street 4 5;street 5 6;street 6 7;"
                + "street 7 0");
        SAY.due("the other way round", x.way(0, 5, 0), 3);
        SAY.due("halfway", x.way(0, 4, 0), 4);
        x.shut(0, 7);
        SAY.due("all around", x.way(0, 7, 0), 7);
        x.shut(3, 4);
        SAY.due("no way", x.way(0, 7, 0), -2);
        x.shut(7, 0);
        SAY.due("a street", x.way(0, 7, 0), 1);
    }

    private static void goingWrong() {
        SAY.of(11, "of one who is, to the greatest PLACE by a street (stays without any)");
        String town = "town 5 9;street 1 0;street 1 2;street 1 4;street 3 4;person 1 0 1;stranger 1 2 20";
        WayMayor x = Check.inTown(town);
        SAY.due("he asks", x.hour(), 1);
        SAY.due("to 4", x.stranger(0, 3), 4);
        x = Check.inTown(town);
        x.shut(1, 4);
        x.hour();
        SAY.due("4 is shut off", x.stranger(0, 3), 2);
        x = Check.inTown(town);
        x.shut(1, 4);
        x.shut(1, 2);
        x.hour();
        SAY.due("without a way", x.stranger(0, 3), 0);
        x = Check.inTown(town);
        x.shut(1, 4);
        x.shut(1, 2);
        x.shut(1, 0);
        SAY.due("asks", x.hour(), 1);
        SAY.due("stays", x.stranger(0, 3), 1);
        x = Check.inTown("town 2 1;person 0 0 1;stranger 0 1 1");
        x.hour();
        SAY.due("no street at all: stays", x.stranger(0, 3), 0);
    }

    private static void goingAlone() {
        SAY.of(11, "if he ASKS nobody, to the least by a street (stays without any).");
        String town = "town 5 9;street 3 4;street 3 2;street 3 1;person 0 9 0;stranger 3 4 20";
        WayMayor x = Check.inTown(town);
        SAY.due("asks nobody", x.hour(), 0);
        SAY.due("to 1", x.stranger(0, 3), 1);
        x = Check.inTown(town);
        x.shut(1, 3);
        x.hour();
        SAY.due("1 is shut off", x.stranger(0, 3), 2);
        x = Check.inTown(town);
        x.shut(1, 3);
        x.shut(2, 3);
        x.shut(4, 3);
        x.hour();
        SAY.due("stays", x.stranger(0, 3), 3);
        x = Sentences.by(town + ";person 3 9 0", "ask 0");
        x.hour();
        SAY.due("who stands there is not asked", x.stranger(0, 3), 1);
        x = Check.inTown("town 2 1;stranger 0 1 1");
        x.hour();
        SAY.due("no street at all: stays", x.stranger(0, 3), 0);
    }

    private static void term() {
        SAY.of(11, "(3) If the rest of HOUR by TERM is TERM - 1: who was ASKED most in this TERM has the CHAIN from now on");
        WayMayor x = Check.inTown("town 2 30;street 0 1;person 0 1 0;stranger 0 1 1");
        Sentences.hours(x, 29);
        SAY.due("hour 29, not yet", x.count(7), NONE);
        SAY.due("asked in this term", x.person(0, 3), 15);
        x.hour();
        SAY.due("hour 30", x.count(7), 0);
        SAY.due("asked in this term", x.person(0, 3), 0);
        x = Check.inTown("town 2 1;street 0 1;person 0 1 0;stranger 0 1 1");
        x.hour();
        SAY.due("a term of one hour", x.count(7), 0);
        x = Sentences.by(CROWD, "ask 2 if person=2 and hour>2;ask 1 if person=2 and stranger=0 or person=1 and stranger=1");
        Check.rule(x, "ask 1 if person=1 and stranger=0 or person=2 and stranger=1 and hour=6");
        Sentences.hours(x, 4);
        SAY.due("not yet", x.count(7), NONE);
        x.hour();
        SAY.due("2 was asked most", x.count(7), 2);
        SAY.due("2 in all", x.person(2, 4), 4);
        x.force(1);
        Sentences.hours(x, 4);
        SAY.due("2 has it still", x.count(7), 2);
        x.hour();
        SAY.due("1 in all", x.person(1, 4), 4);
        SAY.due("2 in all", x.person(2, 4), 5);
        SAY.due("in this term alone", x.count(7), 1);

        SAY.of(11, "of several the least (nobody, if nobody was), and once more; how often they were ASKED in this TERM is 0 "
                + "of all.");
        x = Check.inTown("town 4 1;street 0 1;street 1 2;street 2 3;person 0 5 0;person 1 3 1;person 2 4 0;stranger 0 3 2");
        int[] has = {0, 1, 2, NONE, 0, 1, 2, NONE};
        for (int h = 0; h < 8; h++) {
            x.hour();
            SAY.due("behind hour " + h, x.count(7), has[h]);
        }
        for (int p = 0; p < 3; p++) {
            SAY.due("had the chain: " + p, x.person(p, 5), 2);
        }
        x = Check.inTown(LINE);
        Sentences.hours(x, 2);
        for (int p = 0; p < 3; p++) {
            SAY.due("asked in this term: " + p, x.person(p, 3), p < 2 ? 1 : 0);
        }
        x.hour();
        SAY.due("of three the least", x.count(7), 0);
        for (int p = 0; p < 3; p++) {
            SAY.due("asked in this term: " + p, x.person(p, 3), 0);
            SAY.due("in all: " + p, x.person(p, 4), 1);
            SAY.due("had the chain: " + p, x.person(p, 5), p == 0 ? 1 : 0);
        }
        x = Sentences.by(LINE, "ask 1 if person=2 or person=1");
        Sentences.hours(x, 3);
        SAY.due("of two the least", x.count(7), 1);
        SAY.due("nobody without people", afterTerm("town 2 1;street 0 1;stranger 0 1 1"), NONE);
        x = Sentences.by("town 2 1;street 0 1;person 0 1 0;stranger 0 1 2", "ask 1 if chain=0");
        x.hour();
        SAY.due("has it", x.count(7), 0);
        SAY.due("asked", x.person(0, 3), 0);
        x.hour();
        SAY.due("nobody was asked: has it no more", x.count(7), NONE);
        SAY.due("had it once", x.person(0, 5), 1);
    }

    private static int afterTerm(String town) {
        WayMayor x = Check.inTown(town);
        x.hour();
        return x.count(7);
    }

    private static void hourAtMost() {
        SAY.of(11, "HOUR is 1 more (999 at most).");
        WayMayor x = Check.inTown("town 2 30");
        SAY.due("hour 0", x.count(6), 0);
        x.hour();
        SAY.due("hour 1", x.count(6), 1);
        Sentences.hours(x, 1100);
        SAY.due("hour 999", x.count(6), 999);
    }

    private static void stand() {
        SAY.of(12, "STAND: where they stood; NONE, and nothing happens, without these (another PLACE).");
        WayMayor x = Check.inTown(LINE);
        SAY.due("to 3", x.stand(0, 3), 0);
        SAY.due("to 0", x.stand(0, 0), 3);
        SAY.due("the last one", x.stand(2, 0), 2);
        String seen = Sentences.seen(x);
        SAY.due("where they stand", x.stand(0, 0), NONE);
        int[] nobody = {3, 6, MAX, -1, MIN};
        int[] nowhere = {4, 8, MAX, -1, MIN};
        for (int i = 0; i < 5; i++) {
            SAY.due("person " + nobody[i], x.stand(nobody[i], 3), NONE);
            SAY.due("place " + nowhere[i], x.stand(0, nowhere[i]), NONE);
        }
        SAY.holds("nothing happens", seen.equals(Sentences.seen(x)));
        SAY.due("no town", new WayMayor().stand(0, 1), NONE);

        SAY.of(12, "ACTS: an HOUR; STAND (a PERSON stands at another PLACE)");
        SAY.due("acts", x.count(11), 3);
        SAY.due("without a street between", x.person(2, 0), 0);
        x.hour();
        SAY.due("of 0 and 2 the kinder one is asked", x.before(0, 0), 1);
        x.stand(2, 1);
        x.hour();
        SAY.due("he asks 2, not the less kind 1", x.before(0, 2), 1);
    }

    private static void collar() {
        SAY.of(13, "COLLAR: how KIND they were; NONE, and nothing happens, without these (another one).");
        WayMayor x = Check.inTown(LINE);
        SAY.due("to 9", x.collar(0, 9), 5);
        SAY.due("to 0", x.collar(0, 0), 9);
        SAY.due("the last one", x.collar(2, 3), 4);
        String seen = Sentences.seen(x);
        SAY.due("as they are", x.collar(0, 0), NONE);
        int[] nobody = {3, 6, MAX, -1, MIN};
        int[] never = {10, 11, MAX, -1, MIN};
        for (int i = 0; i < 5; i++) {
            SAY.due("person " + nobody[i], x.collar(nobody[i], 1), NONE);
            SAY.due("kind " + never[i], x.collar(0, never[i]), NONE);
        }
        SAY.holds("nothing happens", seen.equals(Sentences.seen(x)));
        SAY.due("no town", new WayMayor().collar(0, 1), NONE);

        SAY.of(13, "COLLAR (a PERSON is otherwise KIND, 0 to 9)");
        SAY.due("acts", x.count(11), 3);
        x = Check.inTown(CROWD);
        x.collar(1, 0);
        x.hour();
        SAY.due("0 is the kindest then", x.before(0, 0), 1);
    }

    private static void shut() {
        SAY.of(14, "SHUT: 1 if it is SHUT then, else 0; NONE, and nothing happens, if no street was told between these.");
        WayMayor x = Check.inTown(LINE);
        SAY.due("shut", x.shut(0, 1), 1);
        SAY.due("told the other way round: no more", x.shut(1, 0), 0);
        SAY.due("again", x.shut(1, 0), 1);
        String seen = Sentences.seen(x);
        SAY.due("no street", x.shut(0, 2), NONE);
        SAY.due("the same place", x.shut(0, 0), NONE);
        SAY.due("the same place", x.shut(3, 3), NONE);
        int[] nowhere = {4, 7, 8, 64, MAX, -1, -8, MIN};
        for (int place : nowhere) {
            SAY.due("from " + place, x.shut(place, 1), NONE);
            SAY.due("to " + place, x.shut(1, place), NONE);
            SAY.due("both " + place, x.shut(place, place), NONE);
        }
        SAY.holds("nothing happens", seen.equals(Sentences.seen(x)));
        SAY.due("no town", new WayMayor().shut(0, 1), NONE);

        SAY.of(14, "SHUT (a street is SHUT, or, if it was, no more)");
        SAY.due("acts", x.count(11), 3);
        SAY.due("told, though it is shut", x.shut(0, 1), 0);
        SAY.due("a street again", x.streets(0), 2);
    }

    private static void hunt() {
        SAY.of(15, "HUNT: where he was; NONE, and nothing happens, without him in the TOWN.");
        WayMayor x = Check.inTown(LINE);
        SAY.due("not yet in the town", x.hunt(0), NONE);
        SAY.due("no act", x.count(11), 0);
        x.hour();
        SAY.due("at 1", x.hunt(0), 1);
        String seen = Sentences.seen(x);
        int[] nobody = {0, 1, 5, MAX, -1, MIN};
        for (int g : nobody) {
            SAY.due("stranger " + g, x.hunt(g), NONE);
        }
        SAY.holds("nothing happens", seen.equals(Sentences.seen(x)));
        x = Check.inTown(CROWD);
        x.shut(0, 1);
        x.hour();
        SAY.due("at 0", x.hunt(1), 0);
        SAY.due("the other one stays", x.stranger(0, 3), 0);
        SAY.due("no town", new WayMayor().hunt(0), NONE);

        SAY.of(15, "HUNT (a STRANGER in the TOWN is not any more; he has not got there)");
        x = Check.inTown(LINE);
        Sentences.hours(x, 3);
        SAY.due("at 3, where he wants to go", x.hunt(0), 3);
        SAY.due("not in the town", x.stranger(0, 3), NONE);
        SAY.due("has not got there", x.count(8), 0);
        SAY.due("acts", x.count(11), 4);
        SAY.due("hour 3: he does not come", x.hour(), 0);
        SAY.due("never got there", x.count(8), 0);
        SAY.due("hour 4: he comes", x.hour(), 1);
    }

    private static void undo() {
        SAY.of(16, "The last 20 ACTS can be UNDONE, the last first.");
        WayMayor x = Check.inTown(LINE);
        x.collar(0, 7);
        for (int i = 0; i < 19; i++) {
            x.hour();
        }
        SAY.due("20 acts", x.count(11), 20);
        x.stand(0, 3);
        SAY.due("of 21 acts 20", x.count(11), 20);
        SAY.due("stand", x.undo(), 19);
        SAY.due("undone", x.person(0, 0), 0);
        for (int i = 18; i >= 0; i--) {
            SAY.due("undo", x.undo(), i);
            SAY.due("hour", x.count(6), i);
        }
        SAY.due("no more", x.undo(), -2);
        SAY.due("the first act can't be undone", x.person(0, 1), 7);
        x = Check.inTown(LINE);
        for (int i = 0; i < 45; i++) {
            x.collar(1, 8 + i % 2);
            x.stand(1, i % 4);
            x.hour();
        }
        for (int i = 0; i < 20; i++) {
            x.undo();
        }
        SAY.due("none of more", x.undo(), -2);
        SAY.due("hour", x.count(6), 38);
        SAY.due("kind", x.person(1, 1), 8);
        SAY.due("place", x.person(1, 0), 1);

        SAY.of(16, "The last ACT is UNDONE: how many more can be");
        x = Check.inTown(LINE);
        String[] seen = new String[6];
        for (int i = 0; i < 6; i++) {
            seen[i] = Sentences.seen(x);
            int[] answers = {i == 0 ? x.hour() : 0, i == 1 ? x.stand(2, 0) : 0, i == 2 ? x.collar(2, 9) : 0,
                i == 3 ? x.shut(1, 2) : 0, i == 4 ? x.hunt(0) : 0, i == 5 ? x.hour() : 0};
            SAY.holds("act " + i, answers[i] != NONE && x.count(11) == i + 1);
        }
        for (int i = 5; i >= 0; i--) {
            SAY.due("undo", x.undo(), i);
            SAY.holds("all is as it was ahead of act " + i, seen[i].equals(Sentences.seen(x)));
        }
        x = Sentences.by(LINE, "ask 1");
        x.hour();
        x.force(NONE);
        x.seed(8);
        x.note(0, 0, 0);
        Check.feed(x, "abc");
        x.undo();
        SAY.due("what is no act stays: in force", x.count(5), NONE);
        SAY.due("x", x.count(12), 8);
        SAY.due("notes", x.count(10), 1);
        SAY.due("tape", x.count(13), 3);

        SAY.of(16, "-2, and nothing happens: none can.");
        SAY.due("none can", x.undo(), -2);
        SAY.due("hour", x.count(6), 0);
        SAY.due("places", x.count(0), 4);
        SAY.due("no act", x.count(11), 0);
        SAY.due("no town", new WayMayor().undo(), -2);
        x.hour();
        SAY.due("one can", x.undo(), 0);
        SAY.due("none can", x.undo(), -2);
    }
}
