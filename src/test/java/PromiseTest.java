/** Promise by promise, answers found by hand: ordinary inputs, the edges that the document names, wrong inputs. */
public final class PromiseTest {
    private static final int NONE = WayMayor.NONE;
    private static final Check CHECK = new Check("PromiseTest");
    private static int promise = 0;

    /** A line of four places; the stranger is asked on from 0 to 3 in three hours, and again from hour 4, 8, .. on. */
    private static final String LINE = "town 4 3;street 0 1;street 1 2;street 2 3;"
            + "person 0 5 0;person 1 3 1;person 2 4 0;stranger 0 3 2";
    /** Two people at the place in the middle of three. */
    private static final String MIDDLE = "town 3 1;street 0 1;street 1 2;person 1 5 0;person 1 4 0;stranger 0 2 1";
    /** Who is sent right is there at once; who is sent wrong comes to person 2. */
    private static final String FORK = "town 3 9;street 0 1;street 0 2;person 0 5 0;person 1 5 0;person 2 5 0;"
            + "stranger 0 1 1";
    /** Three people at one place, two strangers. */
    private static final String CROWD = "town 2 5;street 0 1;person 0 3 0;person 0 9 0;person 0 1 0;"
            + "stranger 0 1 1;stranger 0 1 2";

    private PromiseTest() {
    }

    private static void due(String call, int got, int want) {
        CHECK.due("promise " + promise + ": " + call, got, want);
    }

    private static void hours(WayMayor x, int n) {
        for (int i = 0; i < n; i++) {
            x.hour();
        }
    }

    public static void main(String[] args) {
        newObject();
        feedAndEnd();
        town();
        rule();
        force();
        personStrangerStreetsBefore();
        hour();
        hourByRule();
        actsByHand();
        undo();
        ahead();
        mayorPitchSmile();
        way();
        came();
        liars();
        post();
        game();
        rests();
        pence();
        noteRuledLook();
        seedAndMarkets();
        count();
        images();
        CHECK.close();
    }

    private static void newObject() {
        promise = 1;
        WayMayor x = new WayMayor();
        int[] counts = {0, 0, 0, 0, 0, NONE, 0, NONE, 0, 0, 0, 0, 0, 0};
        for (int what = 0; what < counts.length; what++) {
            due("count " + what, x.count(what), counts[what]);
        }
        due("NONE", WayMayor.NONE, -1);
        due("no person", x.person(0, 0), NONE);
        due("no stranger", x.stranger(0, 3), -2);
        due("no place", x.streets(0), NONE);
        due("no hour", x.hour(), NONE);
        due("no act", x.undo(), -2);
        due("post", x.post(1, 0), -2);
        due("markets", x.markets(1, 1, 0, 0), NONE);
        due("liars", x.liars(0), -3);
        due("ruled", x.ruled(0), -3);
        due("look", x.look(0, 0), NONE);
        due("force", x.force(0), -2);
    }

    private static void feedAndEnd() {
        promise = 2;
        WayMayor x = new WayMayor();
        for (int i = 1; i <= 20; i++) {
            due("feed " + i, x.feed(0, 0, 0, 0, 0), 20 * i);
        }
        due("feed beyond 400", x.feed(0, 0, 0, 0, 0), NONE);
        due("none came", x.count(13), 400);
        x.end(381);
        due("feed to 401", x.feed(0, 0, 0, 0, 0), NONE);
        x.end(380);
        due("feed to 400", x.feed(0, 0, 0, 0, 0), 400);
        x.end(0);
        due("behind one another, the highest byte first", feedTwice(x), 0);

        promise = 3;
        x = new WayMayor();
        due("end of an empty tape", x.end(0), 0);
        due("end 1 of 0", x.end(1), NONE);
        x.feed(-1, -1, -1, -1, -1);
        due("end -1", x.end(-1), NONE);
        due("end 21 of 20", x.end(21), NONE);
        due("nothing happened", x.count(13), 20);
        due("end 20", x.end(20), 20);
        due("end 7", x.end(7), 7);
        due("end 8 of 7", x.end(8), NONE);
        due("the tape", x.count(13), 7);
        due("feed behind 7", x.feed(0, 0, 0, 0, 0), 27);
    }

    private static int feedTwice(WayMayor x) {
        x.feed(0x746f776e, 0x20322031, 0x3b737472, 0x65657420, 0x30203120);
        x.feed(0x3b737472, 0x65657431, 0x20302020, 0x20202020, 0x20202020);
        return x.town();
    }

    private static void town() {
        promise = 4;
        WayMayor x = new WayMayor();
        due("people", Check.town(x, LINE), 3);
        due("tape empty", x.count(13), 0);
        due("places", x.count(0), 4);
        due("term", x.count(1), 3);
        due("strangers", x.count(3), 1);
        Check.rule(x, "ask kind");
        x.force(0);
        x.seed(77);
        hours(x, 5);
        x.note(0, 0, 0);
        due("a fault", Check.town(x, "town 9 1"), -2 - (1 + 8 * 5 + 1));
        due("tape empty behind a fault", x.count(13), 0);
        due("hour stays", x.count(6), 5);
        due("notes stay", x.count(10), 1);
        due("acts stay", x.count(11), 5);
        due("places stay", x.count(0), 4);
        due("another town", Check.town(x, "  town  2 30 ;street 1 0;street 0 1; stranger 1 0 20  "), 0);
        due("its hour", x.count(6), 0);
        due("no notes", x.count(10), 0);
        due("nothing to be undone", x.count(11), 0);
        due("nobody has the chain", x.count(7), NONE);
        due("nobody got there", x.count(8), 0);
        due("nobody was asked", x.count(9), 0);
        Check.town(x, LINE);
        for (int p = 0; p < 3; p++) {
            due("asked in this term", x.person(p, 3), 0);
            due("had the chain", x.person(p, 5), 0);
            due("before", x.before(0, p), 0);
        }
        due("rule in force stays", x.count(5), 0);
        due("x stays", x.count(12), 77);
        due("undo", x.undo(), -2);
        due("no blank is needed", Check.town(x, "town2 1;person1 9 1;stranger0 1 1"), 1);
        due("wrong", x.person(0, 2), 1);
        due("five digits", Check.town(x, "town 00002 00001"), 0);
        due("six people, five strangers", Check.town(x, "town 8 1" + ";person 7 0 0".repeat(6)
                + ";stranger 7 0 1".repeat(5)), 6);
        due("five strangers", x.count(3), 5);
        due("40 clauses", Check.town(x, "town2 1" + ";street0 1".repeat(39)), 0);
    }

    private static void rule() {
        promise = 5;
        WayMayor x = new WayMayor();
        for (int i = 0; i < 6; i++) {
            due("a fault", Check.rule(x, "ask"), -2 - (1 + 8 * 3));
            due("tape empty behind a fault", x.count(13), 0);
            due("rule " + i, Check.rule(x, "ask " + i + " if kind > " + i + " or not [hour=1]"), i);
            due("tape empty", x.count(13), 0);
        }
        WayMayor y = Check.inTown(CROWD);
        Check.rule(y, "ask 20 if kind=1;ask 7 if");
        Check.rule(y, "ask kind if kind>1");
        y.force(0);
        y.hour();
        due("nothing is left of a text that has a fault", y.before(0, 1), 1);
        due("a seventh", Check.rule(x, "ask 1"), NONE);
        due("its tape stays", x.count(13), 5);
        due("a seventh with a fault", Check.rule(x, "ask"), NONE);
        due("rules", x.count(4), 6);
        due("the tape that stayed is a town's", x.town(), -3);
    }

    private static void force() {
        promise = 6;
        WayMayor x = new WayMayor();
        due("none", x.force(NONE), NONE);
        due("none such", x.force(0), -2);
        Check.rule(x, "ask 1");
        Check.rule(x, "ask 2");
        due("rule 1", x.force(1), NONE);
        due("rule 2", x.force(2), -2);
        due("below", x.force(-2), -2);
        due("stays", x.count(5), 1);
        due("rule 0", x.force(0), 1);
        due("none again", x.force(NONE), 0);
        due("none is", x.count(5), NONE);
    }

    private static void personStrangerStreetsBefore() {
        WayMayor x = Check.inTown(LINE);
        hours(x, 5);
        promise = 7;
        int[] zero = {0, 5, 0, 1, 2, 1};
        int[] one = {1, 3, 1, 0, 1, 0};
        for (int what = 0; what < 6; what++) {
            due("person 0 what " + what, x.person(0, what), zero[what]);
            due("person 1 what " + what, x.person(1, what), one[what]);
        }
        due("what 6", x.person(0, 6), NONE);
        due("what -1", x.person(0, -1), NONE);
        due("person 3", x.person(3, 0), NONE);
        due("person -1", x.person(-1, 0), NONE);

        promise = 8;
        int[] stranger = {0, 3, 2, 1};
        for (int what = 0; what < 4; what++) {
            due("stranger what " + what, x.stranger(0, what), stranger[what]);
        }
        due("what 4", x.stranger(0, 4), -2);
        due("what -1", x.stranger(0, -1), -2);
        due("stranger 1", x.stranger(1, 0), -2);
        due("stranger -1", x.stranger(-1, 0), -2);
        x.hunt(0);
        due("not in the town", x.stranger(0, 3), NONE);

        promise = 9;
        int[] bits = {2, 5, 10, 4};
        for (int place = 0; place < 4; place++) {
            due("streets of " + place, x.streets(place), bits[place]);
        }
        due("place 4", x.streets(4), NONE);
        due("place -1", x.streets(-1), NONE);
        x.shut(2, 1);
        due("shut", x.streets(1), 1);
        due("shut on the other side", x.streets(2), 8);

        promise = 10;
        due("before 0", x.before(0, 0), 2);
        due("before 1", x.before(0, 1), 1);
        due("person 3", x.before(0, 3), NONE);
        due("person -1", x.before(0, -1), NONE);
        due("stranger 1", x.before(1, 0), NONE);
        due("stranger -1", x.before(-1, 0), NONE);
    }

    private static void hour() {
        promise = 11;
        WayMayor x = Check.inTown(LINE);
        int[] asks = {1, 1, 1, 0, 1, 1, 1, 0, 1, 1, 1, 0, 1};
        int[] at = {1, 2, 3, NONE, 1, 2, 3, NONE, 1, 2, 3, NONE, 1};
        int[] chain = {NONE, NONE, 0, 0, 0, 0, 0, 0, 0, 0, 0, 1, 1};
        for (int i = 0; i < asks.length; i++) {
            due("who ask in hour " + i, x.hour(), asks[i]);
            due("where he is behind hour " + i, x.stranger(0, 3), at[i]);
            due("chain behind hour " + i, x.count(7), chain[i]);
        }
        due("got there", x.count(8), 3);
        due("chains of 0", x.person(0, 5), 3);
        due("chains of 1", x.person(1, 5), 1);
        due("chains of 2", x.person(2, 5), 0);

        x = Check.inTown("town 4 2;street 0 1;street 0 2;street 3 0;person 0 9 1;stranger 0 1 5");
        x.hour();
        due("sent wrong: the greatest place", x.stranger(0, 3), 3);
        x.hour();
        due("nobody to ask: the least place", x.stranger(0, 3), 0);
        due("chain", x.count(7), 0);
        x.shut(0, 3);
        x.hour();
        due("sent wrong, a street shut", x.stranger(0, 3), 2);
        x.hour();
        x.shut(0, 1);
        x.shut(0, 2);
        due("asks though no street is left", x.hour(), 1);
        due("stays", x.stranger(0, 3), 0);

        x = Check.inTown("town 8 9;street 7 6;street 7 0;person 6 0 1;person 0 0 1;stranger 0 6 1;stranger 6 0 1");
        x.hour();
        due("sent wrong to 7", x.stranger(0, 3), 7);
        due("sent wrong to 7", x.stranger(1, 3), 7);
        x.stand(0, 7);
        x.shut(6, 7);
        x.hour();
        due("sent wrong to 0", x.stranger(0, 3), 0);

        x = Check.inTown("town 3 2;street 0 1;person 0 0 0;stranger 0 2 1");
        due("kind 0 is asked without a rule", x.hour(), 1);
        due("no way: stays", x.stranger(0, 3), 0);
        x.shut(0, 1);
        x.stand(0, 1);
        due("asks nobody", x.hour(), 0);
        due("nobody and no street: stays", x.stranger(0, 3), 0);
        due("asked in the term: chain", x.count(7), 0);
        x.hour();
        x.hour();
        due("nobody was asked in this term", x.count(7), NONE);
        due("had it once", x.person(0, 5), 1);

        x = Check.inTown("town 2 1;street 0 1;person 0 4 0;person 0 4 0;person 0 3 0;stranger 0 1 1");
        x.hour();
        due("of the kindest the least", x.before(0, 0), 1);
        due("got there only in the next hour", x.count(8), 0);
        x.hour();
        due("got there", x.count(8), 1);
        due("not in the town", x.stranger(0, 3), NONE);
        x.hour();
        due("he comes again", x.stranger(0, 3), 1);

        x = Check.inTown("town 2 30;stranger 0 1 7");
        for (int i = 0; i < 498; i++) {
            x.hour();
        }
        due("hour 498", x.count(6), 498);
        x = Check.inTown("town 2 30");
        for (int i = 0; i < 999; i++) {
            x.hour();
        }
        due("hour 999", x.count(6), 999);
        due("none beyond", x.hour(), NONE);
        due("still 999", x.count(6), 999);
    }

    private static int askedBy(String rule, int hours) {
        WayMayor x = Check.inTown(CROWD);
        if (Check.rule(x, rule) < 0) {
            return -100;
        }
        x.force(0);
        hours(x, hours - 1);
        int[] had = {x.before(0, 0), x.before(0, 1), x.before(0, 2)};
        x.hour();
        for (int p = 0; p < 3; p++) {
            if (x.before(0, p) > had[p]) {
                return p;
            }
        }
        return NONE;
    }

    private static void test(String test, boolean want) {
        due("ask 1 if " + test, askedBy("ask 1 if " + test, 1), want ? 0 : NONE);
    }

    private static void hourByRule() {
        due("ask kind", askedBy("ask kind", 1), 1);
        due("ask 10-kind", askedBy("ask 10-kind", 1), 2);
        due("of several the least", askedBy("ask 5", 1), 0);
        due("0 is nobody", askedBy("ask 0", 1), NONE);
        due("below 0 is nobody", askedBy("ask 0-kind", 1), NONE);
        due("above 0 alone", askedBy("ask kind-8", 1), 1);
        due("the first clause whose test holds", askedBy("ask 1 if kind>5;ask 2 if kind>2;ask 3 if kind>9", 1), 0);
        due("a clause without a test", askedBy("ask person;ask 10-kind", 1), 2);
        due("no clause", askedBy("ask 9 if kind>9", 1), NONE);
        due("before", askedBy("ask 5-before", 1), 0);
        due("asked by himself", askedBy("ask 5-before", 3), 1);
        due("asked in this term", askedBy("ask 5-asked", 1), 0);
        due("asked by others too", askedBy("ask 5-asked", 3), 2);
        due("others", askedBy("ask 1 if others=2", 1), 0);
        due("place", askedBy("ask 1 if place=0", 1), 0);
        due("far", askedBy("ask 1 if far=1", 1), 0);
        due("chain", askedBy("ask 1+chain if hour>0;ask kind", 6), NONE);
        due("chain at hour 6", askedBy("ask 1+chain*5 if hour>5;ask kind", 7), 1);
        due("chain is 1", askedBy("ask 1 if chain=1;ask kind if hour<5", 7), 1);
        due("term", askedBy("ask 1 if term=1 and hour=6", 7), 0);
        due("come", askedBy("ask 1 if come=4;ask kind if come<3", 5), 0);
        due("stranger", askedBy("ask 1 if stranger=0", 1), 0);
        due("another stranger", askedBy("ask 1 if stranger=1", 1), NONE);
        due("person", askedBy("ask person if person<2", 1), 1);
        test("kind=3 and person=0", true);
        test("kind=3 and person=1", false);
        test("1<1 or 1<=1", true);
        test("1>=2 or 2>2", false);
        test("1<=2 and 2>=1 and 1>=1 and 1<2 and 2>1", true);
        test("2<=1 or 1>=2 or 1>1 or 1<1 or 2=1", false);
        test("1=1 or 1=2 or 1=2", true);
        test("1=1 or 1=2 or 1=2 and 1=1", true);
        test("not [1=1 or 1=2]", false);
        test("not [1=2 and 1=1] and 1=1", true);
        test("1=1 or 1=2 and 1=2", true);
        test("[1=1 or 1=2] and 1=2", false);
        test("1=2 and 1=1 or 1=1", true);
        test("1=2 and 1=2 or 1=2 and 1=1", false);
        test("not 1=2 and 1=1", true);
        test("not [1=2 and 1=1]", true);
        test("not [1=2 or 1=1]", false);
        test("not not 1=1", true);
        test("not not not 1=1", false);
        test("[[1=1]]and[1=1 or 1=2]", true);
        test("7/2=3 and 7%2=1 and 5/0=0 and 5%0=0 and 5/0+3=3", true);
        test("2+3*4=14 and 2*3+4=10 and 20-5-3=12 and 100/5/2=10 and 17%10*2=14", true);
        test("1-2<0 and 1-2*3+6=1", true);
        test("32768*32768*32768*32768*8<0", true);
        test("0-32768*32768*32768*32768*8/3>0", true);
        test("32768*32768*32768*32768*8%3+2=0", true);
        test("65536*65536*65536*65536=0", true);
        WayMayor x = Check.inTown("town 4 2;street 0 1;person 0 1 0;stranger 0 3 1;stranger 1 0 1");
        Check.rule(x, "ask 1 if far=99");
        x.force(0);
        due("far without a way", x.hour(), 1);
        x = Check.inTown("town 8 9;street 7 6;person 7 1 0;stranger 7 6 1");
        Check.rule(x, "ask 1 if place=7 and far=1 and others=0 and chain=0");
        x.force(0);
        due("place 7", x.hour(), 1);
    }

    private static void actsByHand() {
        promise = 12;
        WayMayor x = Check.inTown(LINE);
        due("stand", x.stand(0, 2), 0);
        due("there already", x.stand(0, 2), NONE);
        due("place 4", x.stand(0, 4), NONE);
        due("place -1", x.stand(0, -1), NONE);
        due("person 3", x.stand(3, 0), NONE);
        due("person -1", x.stand(-1, 0), NONE);
        due("stands there", x.person(0, 0), 2);
        due("one act", x.count(11), 1);

        promise = 13;
        due("collar", x.collar(1, 0), 3);
        due("as kind already", x.collar(1, 0), NONE);
        due("kind 10", x.collar(1, 10), NONE);
        due("kind -1", x.collar(1, -1), NONE);
        due("person 3", x.collar(3, 0), NONE);
        due("kind 9", x.collar(1, 9), 0);
        due("kind is", x.person(1, 1), 9);
        due("three acts", x.count(11), 3);

        promise = 14;
        due("shut", x.shut(1, 0), 1);
        due("no more", x.shut(0, 1), 0);
        due("shut again", x.shut(0, 1), 1);
        due("no street", x.shut(0, 2), NONE);
        due("the same place", x.shut(1, 1), NONE);
        due("place 4", x.shut(3, 4), NONE);
        due("place -1", x.shut(-1, 0), NONE);
        due("streets", x.streets(0), 0);
        due("six acts", x.count(11), 6);

        promise = 15;
        due("not in the town", x.hunt(0), NONE);
        x.hour();
        due("hunt", x.hunt(0), 0);
        due("no more", x.hunt(0), NONE);
        due("stranger 1", x.hunt(1), NONE);
        due("stranger -1", x.hunt(-1), NONE);
        due("has not got there", x.count(8), 0);
        due("eight acts", x.count(11), 8);
    }

    private static void undo() {
        promise = 16;
        WayMayor x = Check.inTown(LINE);
        x.stand(2, 0);
        x.collar(2, 9);
        x.shut(2, 3);
        hours(x, 3);
        x.hunt(0);
        Check.rule(x, "ask 1");
        x.force(0);
        x.seed(5);
        x.note(0, 0, 2);
        due("hunt undone", x.undo(), 6);
        due("where he was", x.stranger(0, 3), 0);
        due("chain ahead", x.count(7), 2);
        due("hour undone", x.undo(), 5);
        due("no chain", x.count(7), NONE);
        due("asked in the term", x.person(2, 3), 2);
        due("hour", x.count(6), 2);
        due("hour undone", x.undo(), 4);
        due("hour undone", x.undo(), 3);
        due("asked", x.person(2, 4), 0);
        due("before", x.before(0, 2), 0);
        due("not in the town", x.stranger(0, 3), NONE);
        due("shut undone", x.undo(), 2);
        due("streets", x.streets(3), 4);
        due("collar undone", x.undo(), 1);
        due("kind", x.person(2, 1), 4);
        due("stand undone", x.undo(), 0);
        due("place", x.person(2, 0), 2);
        due("none", x.undo(), -2);
        due("the rule in force is no act", x.count(5), 0);
        due("x is no act", x.count(12), 5);
        due("a note is no act", x.count(10), 1);
        hours(x, 25);
        due("the last 20", x.count(11), 20);
        for (int i = 19; i >= 0; i--) {
            due("undo", x.undo(), i);
        }
        due("no more", x.undo(), -2);
        due("hour 5", x.count(6), 5);
    }

    private static void ahead() {
        promise = 17;
        WayMayor x = Check.inTown(LINE);
        hours(x, 2);
        due("asked now", x.ahead(1, 0, 0), 1);
        due("asked in 8 hours", x.ahead(1, 8, 0), 3);
        due("where", x.ahead(0, 1, 1), 3);
        due("not in the town", x.ahead(0, 2, 1), NONE);
        due("got there", x.ahead(-7, 6, 2), 2);
        due("chain in 9", x.ahead(99, 9, 3), 0);
        due("chain in 10", x.ahead(99, 10, 3), 1);
        due("nobody", x.ahead(0, 0, 3), NONE);
        due("n 100", x.ahead(0, 100, 2), 25);
        due("n 101", x.ahead(0, 101, 2), -2);
        due("n -1", x.ahead(0, -1, 2), -2);
        due("what 4", x.ahead(0, 1, 4), -2);
        due("what -1", x.ahead(0, 1, -1), -2);
        due("person 3", x.ahead(3, 1, 0), -2);
        due("stranger 1", x.ahead(1, 1, 1), -2);
        due("stranger -1", x.ahead(-1, 1, 1), -2);
        Check.rule(x, "ask 0");
        x.force(0);
        due("by the rule in force nobody is asked", x.ahead(1, 8, 0), 1);
        x.force(NONE);
        due("without it", x.ahead(1, 8, 0), 3);
        due("nothing changes", x.count(6), 2);
        due("nothing changes", x.stranger(0, 3), 2);
        x = Check.inTown("town 2 30;street 0 1;stranger 0 1 1");
        hours(x, 999);
        due("beyond 999", x.ahead(0, 3, 2), 501);
    }

    private static void mayorPitchSmile() {
        promise = 18;
        WayMayor x = Check.inTown(LINE);
        due("mayor 0", x.mayor(0), 3);
        due("mayor 1", x.mayor(1), 12);
        due("mayor 2: never", x.mayor(2), -2);
        due("person 3", x.mayor(3), NONE);
        due("person -1", x.mayor(-1), NONE);
        hours(x, 4);
        due("has it now", x.mayor(0), 4);
        x = Check.inTown("town 3 30;street 0 1;person 0 1 0;stranger 0 2 20");
        due("hour 30", x.mayor(0), 30);
        x = Check.inTown("town 2 25;street 0 1;person 0 1 0;stranger 1 0 1");
        Check.rule(x, "ask 1");
        x.force(0);
        due("asked at none", x.mayor(0), -2);
        x = Check.inTown("town 2 25;street 0 1;person 0 1 0;stranger 0 1 1");
        Check.rule(x, "ask hour-74");
        x.force(0);
        due("hour 100 is not of these", x.mayor(0), -2);
        x.hour();
        due("from hour 1 on it is", x.mayor(0), 100);

        promise = 19;
        x = Check.inTown(LINE);
        due("pitch of 2 for 3", x.pitch(2, 3, 0), 1);
        due("how often", x.pitch(2, 3, 1), 1);
        due("pitch of 0 for 1", x.pitch(0, 1, 0), 0);
        due("pitch of 1 for 12", x.pitch(1, 12, 0), 1);
        due("how often", x.pitch(1, 12, 1), 3);
        hours(x, 4);
        due("in these hours alone", x.pitch(0, 2, 1), 1);
        due("asked nowhere", x.pitch(1, 1, 1), 0);
        due("of several the least", x.pitch(1, 1, 0), 0);
        x.stand(0, 3);
        due("what 2", x.pitch(0, 1, 2), NONE);
        due("what -1", x.pitch(0, 1, -1), NONE);
        due("n 0", x.pitch(0, 0, 0), NONE);
        due("n 61", x.pitch(0, 61, 0), NONE);
        due("person 3", x.pitch(3, 1, 0), NONE);
        due("stands where they did", x.person(0, 0), 3);

        promise = 20;
        x = Check.inTown("town 2 2;street 0 1;person 0 5 0;person 0 7 0;stranger 0 1 1");
        due("as kind, but the less", x.smile(0, 2), 7);
        due("kinder", x.smile(1, 2), 6);
        x.collar(1, 9);
        due("as kind as can be", x.smile(0, 2), 9);
        x.undo();
        due("not yet", x.smile(0, 1), -2);
        due("person 2", x.smile(2, 1), NONE);
        due("person -1", x.smile(-1, 1), NONE);
        due("n 0", x.smile(0, 0), NONE);
        due("n 61", x.smile(0, 61), NONE);
        x = Check.inTown(LINE);
        due("kind 0 will do", x.smile(0, 3), 0);
        due("kind as it was", x.person(0, 1), 5);
    }

    private static void way() {
        promise = 21;
        WayMayor x = Check.inTown("town 6 1;street 0 3;street 3 2;street 2 1;street 1 0;street 4 2");
        due("0 to 2", x.way(0, 2, 0), 2);
        due("of several the least", x.way(0, 2, 1), 1);
        due("0 to 4", x.way(0, 4, 0), 3);
        due("next to it", x.way(0, 3, 1), 3);
        due("the same", x.way(4, 4, 0), 0);
        due("the same", x.way(4, 4, 1), 4);
        due("none", x.way(0, 5, 0), -2);
        due("none", x.way(5, 0, 1), -2);
        due("what 2", x.way(0, 5, 2), NONE);
        due("what -1", x.way(0, 1, -1), NONE);
        due("place 6", x.way(0, 6, 0), NONE);
        due("place -1", x.way(-1, 0, 0), NONE);
        x.shut(1, 2);
        due("by the other side", x.way(0, 2, 1), 3);
        due("round", x.way(1, 2, 0), 3);
        x.shut(3, 0);
        due("shut off", x.way(0, 2, 0), -2);
        x = Check.inTown("town 2 1");
        due("no street at all", x.way(0, 1, 0), -2);
        due("no street at all", x.way(0, 1, 1), -2);
        due("the same", x.way(1, 1, 0), 0);
    }

    private static void came() {
        promise = 22;
        WayMayor x = Check.inTown(LINE);
        due("to 2 in 2", x.came(0, 2, 2, 0), 1);
        due("least", x.came(0, 2, 2, 1), 0);
        due("to 1 in 3, come again", x.came(0, 3, 1, 0), 2);
        due("least", x.came(0, 3, 1, 1), 2);
        due("none", x.came(0, 1, 0, 0), 0);
        due("none", x.came(0, 1, 0, 1), -2);
        due("n 30", x.came(0, 30, 3, 0) + x.came(0, 30, 2, 0) + x.came(0, 30, 1, 0), 2);
        due("n 0", x.came(0, 0, 0, 0), NONE);
        due("n 31", x.came(0, 31, 0, 0), NONE);
        due("place 4", x.came(0, 1, 4, 0), NONE);
        due("place -1", x.came(0, 1, -1, 0), NONE);
        due("stranger 1", x.came(1, 1, 0, 0), NONE);
        due("what 2", x.came(0, 1, 0, 2), NONE);
        due("what -1", x.came(0, 1, 0, -1), NONE);
        due("where he was", x.stranger(0, 3), NONE);
    }

    private static void liars() {
        promise = 23;
        WayMayor x = Check.inTown(FORK);
        due("all sets", x.liars(0), 8);
        due("the least", x.liars(1), 0);
        due("in all", x.liars(2), 0);
        x.stand(0, 1);
        x.hour();
        x.note(1, 0, 2);
        due("0 sends wrong", x.liars(0), 4);
        due("the least", x.liars(1), 1);
        due("in all", x.liars(2), 1);
        x.note(1, 0, NONE);
        due("no set", x.liars(0), 0);
        due("no set", x.liars(1), -2);
        due("no set", x.liars(2), 0);
        x.note(NONE, 0, 0);
        x.note(1, 0, NONE);
        due("0 does not", x.liars(0), 4);
        due("the least", x.liars(1), 0);
        due("in all", x.liars(2), 0);
        Check.rule(x, "ask 1 if person>0");
        x.force(0);
        due("by the rule in force: nobody sent him wrong", x.liars(0), 8);
        x.note(2, 0, 1);
        due("who is there does not ask", x.liars(0), 0);
        due("what 3", x.liars(3), -3);
        due("what -1", x.liars(-1), -3);
        x = Check.inTown("town 2 1;stranger 0 1 1");
        due("the empty set", x.liars(0), 1);
        due("the empty set", x.liars(1), 0);
    }

    private static void post() {
        promise = 24;
        WayMayor x = Check.inTown("town 4 5;street 0 1;street 1 2;street 1 3;person 1 5 1;stranger 0 2 1");
        due("how many", x.post(3, 0), 1);
        due("one", x.post(3, 1), 1);
        due("other", x.post(3, 2), 3);
        due("too soon: none", x.post(2, 0), 0);
        due("none", x.post(2, 1), NONE);
        due("none", x.post(2, 2), NONE);
        due("n 60", x.post(60, 0), 20);
        due("nothing is shut", x.streets(1), 13);
        due("n 1", x.post(1, 0), 0);
        x.image(0);
        x.shut(3, 1);
        hours(x, 4);
        due("in these hours alone", x.post(2, 0), 1);
        x.back(0);
        x.shut(3, 1);
        due("shut already", x.post(3, 0), 1);
        due("none better", x.post(3, 1), NONE);
        due("n 0", x.post(0, 0), -2);
        due("n 61", x.post(61, 0), -2);
        due("what 3", x.post(1, 3), -2);
        due("what -1", x.post(1, -1), -2);
        // Nobody stands at 1, so that he goes back to 0 unless that street is shut.
        x = Check.inTown("town 4 9;street 0 1;street 1 2;street 3 1;stranger 3 2 1");
        due("street 0 1", x.post(3, 0), 1);
        due("one", x.post(3, 1), 0);
        due("other", x.post(3, 2), 1);
        x = Check.inTown("town 5 9;street 0 1;street 1 4;street 4 3;street 1 2;person 1 1 1;stranger 0 2 1");
        due("of two the lesser place", x.post(3, 0), 1);
        due("one", x.post(3, 1), 1);
        due("other", x.post(3, 2), 4);
    }

    private static void game() {
        promise = 25;
        WayMayor x = Check.inTown(MIDDLE);
        due("one turn", x.game(0, 1, 1, 0), 1);
        due("he goes to 0", x.game(0, 1, 1, 1), 0);
        due("two turns", x.game(0, 1, 2, 0), 1);
        due("he stays", x.game(0, 1, 2, 1), 1);
        due("three turns", x.game(0, 1, 3, 0), 1);
        due("he stays", x.game(0, 1, 3, 1), 1);
        due("the less kind one first", x.game(1, 0, 2, 0), 0);
        due("goes to 0", x.game(1, 0, 2, 1), 0);
        due("unlike", x.game(0, 0, 1, 0), -1000);
        due("person 2", x.game(0, 2, 1, 0), -1000);
        due("person -1", x.game(-1, 0, 1, 0), -1000);
        due("n 0", x.game(0, 1, 0, 0), -1000);
        due("n 4", x.game(0, 1, 4, 0), -1000);
        due("what 2", x.game(0, 1, 1, 2), -1000);
        due("what -1", x.game(0, 1, 1, -1), -1000);
        x.shut(0, 1);
        due("not by a street that is shut", x.game(0, 1, 1, 0), 0);
        due("of several the least", x.game(0, 1, 1, 1), 1);
        x = Check.inTown("town 2 1;street 0 1;person 0 5 0;person 0 4 0;stranger 0 1 1");
        due("below 0", x.game(1, 0, 1, 0), -1);
        due("where they stand is among them", x.game(1, 0, 1, 1), 0);
        due("only these hours", (x.hour() + x.game(1, 0, 1, 0)), 1);
    }

    private static void rests() {
        promise = 26;
        WayMayor x = Check.inTown(MIDDLE);
        due("one hour", x.rests(0, 1, 1, 0), 3);
        due("first", x.rests(0, 1, 1, 1), 0);
        due("first", x.rests(0, 1, 1, 2), 0);
        due("two hours", x.rests(0, 1, 2, 0), 2);
        due("first", x.rests(0, 1, 2, 1), 0);
        due("first", x.rests(0, 1, 2, 2), 1);
        due("the other way round", x.rests(1, 0, 1, 0), 3);
        due("first", x.rests(1, 0, 1, 1), 0);
        due("first", x.rests(1, 0, 1, 2), 0);
        due("n 20", Math.min(x.rests(0, 1, 20, 0), 0), 0);
        due("unlike", x.rests(1, 1, 1, 0), NONE);
        due("person 2", x.rests(0, 2, 1, 0), NONE);
        due("person -1", x.rests(-1, 0, 1, 0), NONE);
        due("n 0", x.rests(0, 1, 0, 0), NONE);
        due("n 21", x.rests(0, 1, 21, 0), NONE);
        due("what 3", x.rests(0, 1, 1, 3), NONE);
        due("what -1", x.rests(0, 1, 1, -1), NONE);
        // Person 0 is asked only where 1 stands, person 1 only where 0 does not: there is no rest.
        x = Check.inTown("town 2 9;street 0 1;person 0 1 0;person 1 1 0;person 0 0 0;person 1 0 0;"
                + "stranger 0 1 20;stranger 1 0 20");
        Check.rule(x, "ask 5 if person=0 and others=2;ask 4 if person=1 and others=1;ask 1 if person>1");
        x.force(0);
        due("none", x.rests(0, 1, 1, 0), 0);
        due("none", x.rests(0, 1, 1, 1), -2);
        due("none", x.rests(0, 1, 1, 2), -2);
    }

    private static void pence() {
        promise = 27;
        WayMayor x = Check.inTown(LINE);
        due("nobody was asked", x.pence(100, 0), 0);
        hours(x, 3);
        int[] ten = {4, 3, 3};
        int[] eleven = {4, 4, 3};
        for (int p = 0; p < 3; p++) {
            due("10 of 1 1 1", x.pence(10, p), ten[p]);
            due("11 of 1 1 1", x.pence(11, p), eleven[p]);
        }
        hours(x, 2);
        int[] halves = {5, 3, 2};
        int[] nine = {5, 2, 2};
        for (int p = 0; p < 3; p++) {
            due("10 of 2 1 1", x.pence(10, p), halves[p]);
            due("9 of 2 1 1", x.pence(9, p), nine[p]);
        }
        due("0", x.pence(0, 0), 0);
        due("9999: the halves lose less", x.pence(9999, 0), 4999);
        due("9999", x.pence(9999, 2), 2500);
        due("10000", x.pence(10000, 0), NONE);
        due("-1", x.pence(-1, 0), NONE);
        due("person 3", x.pence(1, 3), NONE);
        due("person -1", x.pence(1, -1), NONE);
    }

    private static void noteRuledLook() {
        promise = 28;
        WayMayor x = Check.inTown(CROWD);
        due("none, though nobody is told", x.note(NONE, -5, -5), 0);
        due("n 61", x.note(61, 0, 0), -2);
        due("n -2", x.note(-2, 0, 0), -2);
        due("stranger 2", x.note(0, 2, 0), -2);
        due("stranger -1", x.note(0, -1, 0), -2);
        due("person 3", x.note(0, 0, 3), -2);
        due("person -2", x.note(0, 0, -2), -2);
        for (int i = 1; i <= 10; i++) {
            due("note", x.note(i == 10 ? 60 : 0, 0, i == 1 ? NONE : 2), i);
        }
        due("there are 10", x.note(0, 0, 0), -2);
        due("none then", x.note(NONE, 0, 0), 0);
        due("none", x.count(10), 0);

        promise = 29;
        Check.rule(x, "ask kind");
        Check.rule(x, "ask 10-kind");
        Check.rule(x, "ask person+1");
        due("without notes all", x.ruled(0), 4);
        due("none first", x.ruled(1), NONE);
        x.note(0, 0, 1);
        due("by 1", x.ruled(0), 2);
        due("none first", x.ruled(1), NONE);
        x.note(NONE, 0, 0);
        x.note(0, 0, 2);
        x.stand(2, 1);
        due("by 2, as the text told it", x.ruled(0), 2);
        due("rule 1", x.ruled(1), 1);
        x.note(1, 0, NONE);
        due("there he asks nobody", x.ruled(0), 2);
        x.note(1, 1, 0);
        due("none such", x.ruled(0), 0);
        due("none such", x.ruled(1), -2);
        due("what 2", x.ruled(2), -3);
        due("what -1", x.ruled(-1), -3);

        promise = 30;
        due("no rule is so", x.look(0, 0), -2);
        due("no rule is so", x.look(0, 1), -2);
        x = Check.inTown(CROWD);
        Check.rule(x, "ask 10-kind");
        Check.rule(x, "ask 9-person");
        Check.rule(x, "ask kind if stranger=0");
        due("stranger 1 parts all", x.look(0, 0), 1);
        due("each alone", x.look(0, 1), 1);
        x.note(0, 1, NONE);
        due("one rule alone is so", x.look(0, 0), 0);
        due("one alike", x.look(0, 1), 1);
        x.note(NONE, 0, 0);
        due("in hour 1 nobody asks", x.look(1, 0), 0);
        due("all alike", x.look(1, 1), 4);
        due("n 60", x.look(60, 0), 1);
        x.note(0, 0, 1);
        due("from the begin on, behind a note", x.look(0, 0), 1);
        due("each alone", x.look(0, 1), 1);
        x = Check.inTown(CROWD);
        Check.rule(x, "ask 10-kind if stranger=0;ask kind");
        Check.rule(x, "ask 9-person if stranger=0;ask kind");
        due("stranger 0 parts all", x.look(0, 0), 0);
        due("each alone", x.look(0, 1), 1);
        due("n 61", x.look(61, 0), NONE);
        due("n -1", x.look(-1, 0), NONE);
        due("what 2", x.look(0, 2), NONE);
        due("what -1", x.look(0, -1), NONE);
        x = Check.inTown("town 2 1;person 0 0 0");
        due("no strangers", x.look(0, 0), -2);
        due("no strangers", x.look(0, 1), -2);
    }

    private static void seedAndMarkets() {
        promise = 31;
        WayMayor x = Check.inTown("town 2 1;street 0 1;person 1 5 0;stranger 0 1 1");
        due("it was 0", x.seed(2147483647), 0);
        due("below 0", x.seed(-1), NONE);
        due("stays", x.count(12), 2147483647);
        due("it was", x.seed(0), 2147483647);

        // By x = 0 the draws are 0, 21468, 9988, 22117, 3498, 16927, 16045, 19741, 12122.
        promise = 32;
        due("got there in 3", x.markets(1, 3, 100, 0), 1);
        due("asked in 3", x.markets(1, 3, 100, 1), 2);
        due("p 0: got there", x.markets(1, 3, 0, 0), 1);
        due("p 0: asked", x.markets(1, 3, 0, 1), 0);
        due("p 17: the draw is not below", x.markets(1, 3, 17, 1), 2);
        due("p 18: it is", x.markets(1, 3, 18, 1), 1);
        due("two times, each from now on", x.markets(2, 1, 100, 1), 1);
        due("three times", x.markets(3, 1, 100, 1), 2);
        due("three times: got there", x.markets(3, 1, 100, 0), 0);
        due("x as it was", x.count(12), 0);
        due("stands where they did", x.person(0, 0), 1);
        x.hour();
        due("only those of these hours", x.markets(1, 1, 0, 0), 1);
        x.hour();
        due("only those of these hours", x.markets(1, 2, 0, 0), 1);
        due("m 0", x.markets(0, 1, 0, 0), NONE);
        due("m 11", x.markets(11, 1, 0, 0), NONE);
        due("n 0", x.markets(1, 0, 0, 0), NONE);
        due("n 61", x.markets(1, 61, 0, 0), NONE);
        due("p -1", x.markets(1, 1, -1, 0), NONE);
        due("p 101", x.markets(1, 1, 101, 0), NONE);
        due("what 2", x.markets(1, 1, 0, 2), NONE);
        due("what -1", x.markets(1, 1, 0, -1), NONE);
        x = Check.inTown("town 2 1;street 0 1;stranger 0 1 1");
        due("nobody to be placed", x.markets(10, 60, 100, 0), 300);
    }

    private static void count() {
        promise = 33;
        WayMayor x = Check.inTown(LINE);
        Check.rule(x, "ask kind");
        x.force(0);
        hours(x, 4);
        x.collar(0, 4);
        x.note(3, 0, NONE);
        x.seed(9);
        x.feed(0, 0, 0, 0, 0);
        int[] counts = {4, 3, 3, 1, 1, 0, 4, 0, 1, 3, 1, 5, 9, 20};
        for (int what = 0; what < counts.length; what++) {
            due("count " + what, x.count(what), counts[what]);
        }
        due("count 14", x.count(14), NONE);
        due("count -1", x.count(-1), NONE);
    }

    private static void images() {
        promise = 34;
        WayMayor x = new WayMayor();
        due("never made", x.back(0), NONE);
        due("without a town", x.image(3), 0);
        Check.town(x, LINE);
        Check.rule(x, "ask 10-kind");
        x.force(0);
        x.seed(8);
        hours(x, 22);
        x.note(1, 0, 1);
        x.stand(0, 3);
        due("image", x.image(0), 22);
        due("image 4", x.image(4), NONE);
        due("image -1", x.image(-1), NONE);

        promise = 35;
        due("never made", x.back(1), NONE);
        due("back 4", x.back(4), NONE);
        due("back -1", x.back(-1), NONE);
        x.force(NONE);
        x.seed(3);
        x.note(NONE, 0, 0);
        x.note(2, 0, NONE);
        hours(x, 3);
        Check.rule(x, "ask 1");
        Check.town(x, FORK + ";stranger 1 2 1");
        x.note(2, 1, NONE);
        x.feed(0, 0, 0, 0, 0);
        due("back", x.back(0), 22);
        due("town", x.count(0), 4);
        due("force", x.count(5), 0);
        due("x", x.count(12), 8);
        due("notes", x.count(10), 1);
        due("the same note", x.ruled(0), 3);
        due("what can be undone", x.count(11), 20);
        due("chains", x.person(0, 5), 6);
        due("rules stay", x.count(4), 2);
        due("the tape stays", x.count(13), 20);
        due("place", x.person(0, 0), 3);
        due("undo", x.undo(), 19);
        due("undone", x.person(0, 0), 0);
        due("undo an hour", x.undo(), 18);
        due("hour", x.count(6), 21);
        x.force(NONE);
        hours(x, 20);
        due("back once more", x.back(0), 22);
        for (int i = 19; i > 0; i--) {
            x.undo();
        }
        due("the oldest that can be undone", x.undo(), 0);
        due("hour 3", x.count(6), 3);
        due("asked", x.count(9), 3);
        due("back once more", x.back(0), 22);
        due("as it was", x.count(11), 20);
        due("image written over", (x.hour() + x.image(0)), 24);
        x.undo();
        due("back", x.back(0), 23);
        due("back to no town", x.back(3), 0);
        due("no town", x.count(0), 0);
        due("none in force", x.count(5), NONE);
        due("no hour", x.hour(), NONE);
    }
}
