/** Sentences that name a boundary case: promises 1 to 6, and of "Terms" the TOWN, the RULES and their FAULTS. */
public final class EdgeTextTest {
    private static final int NONE = WayMayor.NONE;
    private static final int MIN = Integer.MIN_VALUE;
    private static final int MAX = Integer.MAX_VALUE;
    private static final Sentences SAY = new Sentences("EdgeTextTest");
    private static final String SMALL = "town 2 1;street 0 1;person 0 5 0;stranger 0 1 1";
    /** Three people at one place, two strangers. */
    private static final String CROWD = "town 2 5;street 0 1;person 0 3 0;person 0 9 0;person 0 1 0;"
            + "stranger 0 1 1;stranger 0 1 2";

    private EdgeTextTest() {
    }

    public static void main(String[] args) {
        newObject();
        feed();
        end();
        town();
        rule();
        force();
        townText();
        townNumbers();
        townCounts();
        ruleText();
        ruleWords();
        ruleSums();
        ruleTests();
        ruleLimits();
        faultsInOrder();
        faultCantStand();
        faultNumbers();
        faultTooDeep();
        faultPartTooMany();
        faultClauses();
        faultsOfOnePlace();
        SAY.close();
    }

    private static void town(String text, int want) {
        SAY.due("town " + text, Check.town(new WayMayor(), text), want);
    }

    private static void rule(String text, int want) {
        SAY.due("rule " + text, Check.rule(new WayMayor(), text), want);
    }

    private static int fault(int place, int code) {
        return Sentences.fault(place, code);
    }

    private static void newObject() {
        SAY.of(1, "No TOWN, no RULES, none IN FORCE.");
        WayMayor old = Sentences.by(SMALL, "ask 1");
        old.hour();
        old.seed(9);
        old.image(0);
        WayMayor x = new WayMayor();
        int[] counts = {0, 0, 0, 0, 0, NONE, 0, NONE, 0, 0, 0, 0, 0, 0};
        for (int what = 0; what < counts.length; what++) {
            SAY.due("count " + what, x.count(what), counts[what]);
        }
        SAY.due("no place", x.streets(0), NONE);
        SAY.due("no rule 0", x.force(0), -2);
        SAY.due("no image", x.back(0), NONE);
        SAY.due("none was in force", x.force(NONE), NONE);
        SAY.due("what another object has stays", old.count(6), 1);

        SAY.of(1, "The constants: `NONE = -1`: None.");
        SAY.due("NONE", NONE, -1);
        SAY.due("what is answered", x.count(5), -1);
    }

    private static void feed() {
        SAY.of(2, "Twenty bytes come behind the TAPE, of each number the highest first: how many it has");
        WayMayor x = new WayMayor();
        SAY.due("the first", x.feed(0x61736b20, 0x20202020, 0x20202020, 0x20202020, 0x31207a7a), 20);
        SAY.due("end", x.end(18), 18);
        SAY.due("behind it", x.feed(0x3b61736b, 0x20202033, 0x206b696e, 0x64202020, 0x20202020), 38);
        SAY.due("ask 1 ;ask 3 kind", x.rule(), fault(18 + 9, 0));
        x.feed(-1, 0, 0, 0, 0);
        SAY.due("a byte of 255", x.town(), fault(0, 0));
        x.feed(0x746f776e, 0x20383330, 0x20000000, 0, 0);
        x.end(9);
        SAY.due("town 830: all four bytes of each", x.town(), fault(5, 1));

        SAY.of(2, "NONE, and none comes, if it would have more than 400.");
        x = new WayMayor();
        for (int i = 1; i <= 20; i++) {
            SAY.due("feed " + i, x.feed(0x20202020, 0x20202020, 0x20202020, 0x20202020, 0x20202020), 20 * i);
        }
        SAY.due("at 400", x.feed(0, 0, 0, 0, 0), NONE);
        SAY.due("still 400", x.count(13), 400);
        SAY.due("400 blanks", x.rule(), fault(400, 0));
        Check.feed(x, "ask 1" + " ".repeat(376));
        SAY.due("at 381", x.feed(0, 0, 0, 0, 0), NONE);
        SAY.due("still 381", x.count(13), 381);
        SAY.due("none came", x.rule(), 0);
        Check.feed(x, "ask 1" + " ".repeat(375));
        SAY.due("at 380", x.feed(0x20202020, 0x20202020, 0x20202020, 0x20202020, 0x20202020), 400);
        SAY.due("all came", x.rule(), 1);
    }

    private static void end() {
        SAY.of(3, "The TAPE has its first n bytes alone: n");
        WayMayor x = new WayMayor();
        SAY.due("0 of 0", x.end(0), 0);
        Check.feed(x, "ask 1;ask 2 if 3=3x ");
        SAY.due("20 of 20", x.end(20), 20);
        SAY.due("18 of 20", x.end(18), 18);
        SAY.due("the first ones", x.rule(), 0);
        Check.feed(x, "ask 1;ask 2 if 3=3x ");
        SAY.due("5 of 20", x.end(5), 5);
        SAY.due("the others are gone", x.end(6), NONE);
        SAY.due("1 more comes behind them", Check.feed(x, "+"), 6);
        SAY.due("ask 1+", x.rule(), fault(6, 0));
        Check.feed(x, "ask 1");
        SAY.due("0 of 5", x.end(0), 0);
        SAY.due("nothing is left", x.rule(), fault(0, 0));
        Check.feed(x, "ask 1 if 1<=1");
        x.end(11);
        SAY.due("< without the = that was cut off", x.rule(), fault(11, 0));
        Check.feed(x, "ask kind+12");
        x.end(10);
        SAY.due("a digit was cut off", x.rule(), 1);
        Check.feed(x, "ask kind");
        x.end(7);
        SAY.due("a letter was cut off", x.rule(), fault(4, 0));

        SAY.of(3, "NONE, and nothing happens, if it has not so many, or n is below 0.");
        x = new WayMayor();
        SAY.due("1 of 0", x.end(1), NONE);
        Check.feed(x, "ask 1");
        int[] not = {6, 20, 400, MAX, -1, -5, MIN};
        for (int n : not) {
            SAY.due("end " + n, x.end(n), NONE);
            SAY.due("nothing happened", x.count(13), 5);
        }
        SAY.due("nothing happened", x.rule(), 0);
    }

    private static void town() {
        SAY.of(4, "The TAPE, which is empty then, is the TOWN in place of the one there was");
        WayMayor x = new WayMayor();
        SAY.due("a town", Check.town(x, "town 8 30;street 6 7;person 7 9 1;person 1 2 0;stranger 6 7 20"), 2);
        SAY.due("the tape", x.count(13), 0);
        SAY.due("none is told by an empty one", x.town(), fault(0, 0));
        SAY.due("another", Check.town(x, "town 2 1;person 1 3 0"), 1);
        SAY.due("no place 2", x.streets(2), NONE);
        SAY.due("no street", x.streets(0), 0);
        SAY.due("term", x.count(1), 1);
        SAY.due("person 0", x.person(0, 1), 3);
        SAY.due("not wrong", x.person(0, 2), 0);
        SAY.due("no person 1", x.person(1, 0), NONE);
        SAY.due("no stranger 0", x.stranger(0, 0), -2);

        SAY.of(4, "(no NOTES, nothing to be UNDONE; the RULE IN FORCE and x stay)");
        x = Sentences.by(SMALL, "ask kind");
        x.seed(MAX);
        x.note(0, 0, 0);
        Sentences.hours(x, 3);
        Check.town(x, SMALL);
        SAY.due("notes", x.count(10), 0);
        SAY.due("acts", x.count(11), 0);
        SAY.due("undo", x.undo(), -2);
        SAY.due("in force", x.count(5), 0);
        SAY.due("x", x.count(12), MAX);

        SAY.of(4, "how many PEOPLE");
        town("town 2 1", 0);
        town("town 2 1;person 0 0 0", 1);
        town("town 2 1" + ";person 1 9 1".repeat(6), 6);

        SAY.of(4, "-2 - its FAULT, and all stays.");
        x = Sentences.by(CROWD, "ask kind");
        Sentences.hours(x, 6);
        x.stand(2, 1);
        x.shut(0, 1);
        x.note(0, 0, 1);
        x.seed(4);
        String before = Sentences.seen(x);
        SAY.due("the least fault", Check.town(x, ""), -3);
        SAY.due("a fault behind all that was told", Check.town(x, "town 3 2;street 1 2;person 2 1 1;stranger 0 1"),
                fault(45, 0));
        SAY.due("at the end of 400 bytes", Check.town(x, "town 2 1;" + " ".repeat(391)), fault(400, 0));
        SAY.holds("all stays", before.equals(Sentences.seen(x)));
        SAY.due("what can be undone, too", x.undo(), 7);
        SAY.due("the street", x.streets(0), 2);
        x = new WayMayor();
        Check.town(x, "town 2 1;person 0 1 0;");
        SAY.due("no town stays none", x.hour(), NONE);
        SAY.due("nobody", x.count(2), 0);
    }

    private static void rule() {
        SAY.of(5, "The TAPE, which is empty then, is a RULE: its number; -2 - its FAULT");
        WayMayor x = new WayMayor();
        for (int i = 0; i < 6; i++) {
            SAY.due("the least fault", Check.rule(x, ""), -3);
            SAY.due("a fault", Check.rule(x, "ask 1;"), fault(6, 0));
            SAY.due("the tape behind a fault", x.count(13), 0);
            SAY.due("rules", x.count(4), i);
            SAY.due("a rule", Check.rule(x, "ask " + i), i);
            SAY.due("the tape", x.count(13), 0);
        }
        x = Check.inTown(CROWD);
        String full = "ask 9 if kind=9" + "+0".repeat(56);
        SAY.due("a fault behind all that a rule can have", Check.rule(x, full + "?"), fault(full.length(), 0));
        SAY.due("as much again", Check.rule(x, "ask 10-kind" + "+0".repeat(58)), 0);
        x.force(0);
        x.hour();
        SAY.due("nothing is left of the one with a fault", x.before(0, 2), 1);
        x = Check.inTown(CROWD);
        for (int i = 0; i < 12; i++) {
            SAY.due("twelve clauses and a fault", Check.rule(x, "ask 1;".repeat(12)), fault(72, 0));
        }
        SAY.due("a rule", Check.rule(x, "ask 5 if person=2"), 0);
        x.force(0);
        x.hour();
        SAY.due("nothing is left of those with a fault", x.before(0, 2), 1);

        x = new WayMayor();
        for (int i = 0; i < 6; i++) {
            Check.rule(x, "ask 1");
        }
        SAY.of(5, "NONE, and nothing happens: there are 6.");
        SAY.due("a seventh", Check.rule(x, "ask 1"), NONE);
        SAY.due("its tape", x.count(13), 5);
        SAY.due("with a fault", Check.rule(x, "asks"), NONE);
        SAY.due("its tape", x.count(13), 4);
        SAY.due("rules", x.count(4), 6);
        SAY.due("no rule 6", x.force(6), -2);
    }

    private static void force() {
        SAY.of(6, "A RULE is IN FORCE (NONE: none): which was");
        WayMayor x = new WayMayor();
        SAY.due("none, none was", x.force(NONE), NONE);
        for (int i = 0; i < 6; i++) {
            Check.rule(x, "ask 1");
            SAY.due("the last one", x.force(i), i - 1);
        }
        SAY.due("the first one", x.force(0), 5);
        SAY.due("the same once more", x.force(0), 0);
        SAY.due("none", x.force(NONE), 0);
        SAY.due("none is", x.count(5), NONE);

        SAY.of(6, "-2, and nothing happens, if there is none such.");
        int[] not = {6, 7, MAX, -2, MIN};
        x.force(3);
        for (int r : not) {
            SAY.due("force " + r, x.force(r), -2);
            SAY.due("nothing happened", x.count(5), 3);
        }
        x = new WayMayor();
        SAY.due("without any", x.force(0), -2);
        Check.rule(x, "ask 1");
        SAY.due("1 of 1", x.force(1), -2);
        SAY.due("nothing happened", x.count(5), NONE);
    }

    private static void townText() {
        SAY.of(4, "A TOWN is a text of at most 400 bytes: CLAUSE { ; CLAUSE }, 40 at most");
        town("town 2" + " ".repeat(393) + "1", 0);
        town("town2 1" + ";street0 1".repeat(39), 0);
        town("town2 1" + ";street0 1".repeat(38) + ";person0 0 0", 1);
        town("town2 1" + ";street0 1".repeat(39) + ";to", fault(398, 0));
        town("town2 1" + ";street0 1".repeat(39) + ";", fault(398, 0));
        town("", fault(0, 0));
        town("town 2 1;", fault(9, 0));
        town("town 2 1;;street 0 1", fault(9, 0));
        town("town 2 1 street 0 1", fault(9, 0));

        SAY.of(4, "street NUMBER NUMBER (two PLACES; told already: nothing new)");
        WayMayor x = Check.inTown("town 8 1;street 7 0;street 0 7;street 7 0;street 6 7");
        SAY.due("of 0", x.streets(0), 128);
        SAY.due("of 7", x.streets(7), 65);
        SAY.due("told twice", Check.inTown("town 2 1;street 0 1;street 0 1").streets(0), 2);
        SAY.due("told twice, the other way round", Check.inTown("town 2 1;street 0 1;street 1 0").streets(0), 2);
        SAY.due("it is one street", x.shut(0, 7), 1);
        SAY.due("of 0", x.streets(0), 0);
        SAY.due("of 7", x.streets(7), 64);

        SAY.of(4, "in the order told. It is HOUR 0; no STRANGER is in the TOWN, nobody was ASKED, nobody has the CHAIN.");
        x = Check.inTown(CROWD);
        Sentences.hours(x, 8);
        SAY.holds("somebody has the chain", x.count(7) == 1 && x.count(9) > 0);
        SAY.holds("somebody was asked in this term", x.person(1, 3) > 0);
        Check.town(x, "town 4 2;stranger 0 1 3;person 2 7 0;stranger 3 2 1;person 0 8 1");
        SAY.due("person 0", x.person(0, 0), 2);
        SAY.due("person 1", x.person(1, 0), 0);
        SAY.due("stranger 0", x.stranger(0, 0), 0);
        SAY.due("stranger 1", x.stranger(1, 0), 3);
        SAY.due("hour", x.count(6), 0);
        SAY.due("chain", x.count(7), NONE);
        SAY.due("got there", x.count(8), 0);
        SAY.due("asked, in all", x.count(9), 0);
        Check.town(x, CROWD);
        for (int i = 0; i < 2; i++) {
            SAY.due("stranger " + i, x.stranger(i, 3), NONE);
            SAY.due("asked in this term", x.person(i, 3), 0);
            SAY.due("asked in all", x.person(i, 4), 0);
            SAY.due("had the chain", x.person(i, 5), 0);
            SAY.due("before", x.before(0, i) + x.before(1, i), 0);
        }
    }

    private static void townNumbers() {
        SAY.of(4, "town NUMBER NUMBER (PLACES 2 to 8, how many; TERM 1 to 30, hours; once, the first CLAUSE)");
        town("town 1 1", fault(5, 1));
        town("town 0 1", fault(5, 1));
        town("town 2 1", 0);
        town("town 8 30", 0);
        town("town 9 30", fault(5, 1));
        town("town 2 0", fault(7, 1));
        town("town 2 31", fault(7, 1));
        town("town 2 1;town 2 1", fault(9, 4));
        town("person 0 0 0;town 2 1", fault(0, 4));
        SAY.due("places", Check.inTown("town 8 30").count(0), 8);
        SAY.due("term", Check.inTown("town 8 30").count(1), 30);

        SAY.of(4, "person NUMBER NUMBER NUMBER (a PLACE; KIND 0 to 9; WRONG: 0, or 1 who sends one wrong)");
        town("town 2 1;person 0 0 0", 1);
        town("town 2 1;person 1 9 1", 1);
        town("town 2 1;person 2 9 1", fault(16, 1));
        town("town 2 1;person 1 10 1", fault(18, 1));
        town("town 2 1;person 1 9 2", fault(20, 1));
        WayMayor x = Check.inTown("town 8 1;person 7 0 1;person 0 9 0");
        int[] first = {7, 0, 1};
        int[] second = {0, 9, 0};
        for (int what = 0; what < 3; what++) {
            SAY.due("person 0 what " + what, x.person(0, what), first[what]);
            SAY.due("person 1 what " + what, x.person(1, what), second[what]);
        }

        SAY.of(4, "stranger NUMBER NUMBER NUMBER (FROM, TO: two PLACES; EVERY 1 to 20, hours)");
        town("town 2 1;stranger 0 1 1", 0);
        town("town 2 1;stranger 1 0 20", 0);
        town("town 2 1;stranger 2 0 1", fault(18, 1));
        town("town 2 1;stranger 0 2 1", fault(20, 1));
        town("town 2 1;stranger 1 1 1", fault(20, 1));
        town("town 2 1;stranger 1 0 0", fault(22, 1));
        town("town 2 1;stranger 1 0 21", fault(22, 1));
        x = Check.inTown("town 8 1;stranger 7 0 20;stranger 0 7 1");
        int[] one = {7, 0, 20};
        int[] other = {0, 7, 1};
        for (int what = 0; what < 3; what++) {
            SAY.due("stranger 0 what " + what, x.stranger(0, what), one[what]);
            SAY.due("stranger 1 what " + what, x.stranger(1, what), other[what]);
        }
    }

    private static void townCounts() {
        SAY.of(4, "PEOPLE 0 to 5, STRANGERS 0 to 4, in the order told.");
        StringBuilder text = new StringBuilder("town 8 1");
        for (int i = 0; i < 6; i++) {
            text.append(";person ").append(7 - i).append(' ').append(9 - i).append(' ').append(i % 2);
        }
        for (int i = 0; i < 5; i++) {
            text.append(";stranger ").append(i).append(" 7 ").append(20 - i);
        }
        WayMayor x = new WayMayor();
        SAY.due("six people, five strangers", Check.town(x, text.toString()), 6);
        SAY.due("people", x.count(2), 6);
        SAY.due("strangers", x.count(3), 5);
        for (int i = 0; i < 6; i++) {
            SAY.due("place of " + i, x.person(i, 0), 7 - i);
            SAY.due("kind of " + i, x.person(i, 1), 9 - i);
            SAY.due("wrong is " + i, x.person(i, 2), i % 2);
        }
        for (int i = 0; i < 5; i++) {
            SAY.due("from of " + i, x.stranger(i, 0), i);
            SAY.due("every of " + i, x.stranger(i, 2), 20 - i);
        }
        SAY.due("no person 6", x.person(6, 0), NONE);
        SAY.due("no stranger 5", x.stranger(5, 0), -2);
        x = Check.inTown("town 2 1");
        SAY.due("no person 0", x.person(0, 0), NONE);
        SAY.due("no stranger 0", x.stranger(0, 0), -2);
    }

    /** Whom stranger 0 asks in the n-th hour in the crowd by that rule; -100 if it has a fault. */
    private static int asks(String rule, int n) {
        WayMayor x = Check.inTown(CROWD);
        if (Check.rule(x, rule) < 0) {
            return -100;
        }
        x.force(0);
        Sentences.hours(x, n);
        int[] had = {x.before(0, 0), x.before(0, 1), x.before(0, 2)};
        x.hour();
        for (int p = 0; p < 3; p++) {
            if (x.before(0, p) > had[p]) {
                return p;
            }
        }
        return NONE;
    }

    private static void asks(String rule, int n, int want) {
        SAY.due(rule + " in hour " + n, asks(rule, n), want);
    }

    private static void test(String test, boolean so) {
        SAY.due(test, asks("ask 1 if " + test, 0), so ? 0 : NONE);
    }

    private static void ruleText() {
        SAY.of(5, "RULES 0 to 5: texts likewise, 12 CLAUSES at most: ask SUM [ if TEST ].");
        rule("ask" + " ".repeat(396) + "1", 0);
        rule("ask 1 if 1=1" + ";ask 1".repeat(11), 0);
        rule("ask 1 if 1=1" + ";ask 1".repeat(12), fault(12 + 6 * 11 + 1, 4));
        rule("", fault(0, 0));
        rule("ask 1 if", fault(8, 0));
        rule("ask if 1=1", fault(4, 0));
        asks("ask 1 if kind=1" + ";ask 2 if kind=0".repeat(10) + ";ask 3 if kind=9", 0, 1);

        SAY.of(5, "VALUE: NUMBER (1 to 5 digits, as far as digits go on) | WORD.");
        rule("ask 99999", 0);
        rule("ask 00001", 0);
        rule("ask 0", 0);
        rule("ask 100000", fault(4, 1));
        rule("ask 000001", fault(4, 1));
        rule("ask 1 1", fault(6, 0));
        asks("ask 1 if kind=00009", 0, 1);
        test("99999+1=2*50000", true);

        SAY.of(5, "WORDS (small letters, as far as these go on)");
        rule("ask kindasked", fault(4, 0));
        rule("ask Kind", fault(4, 0));
        rule("ask kinD", fault(4, 0));
        rule("ask kind D", fault(9, 0));
        rule("ask kin", fault(4, 0));
        rule("askkind", fault(0, 0));
        rule("ask kind1", fault(8, 0));
        rule("ask kinda", fault(4, 0));
        rule("ask kindz", fault(4, 0));
        rule("ask kind`", fault(8, 0));
        rule("ask kind{", fault(8, 0));
        town("townz 2 1", fault(0, 0));
        rule("ask kindif 1=1", fault(4, 0));
        rule("ask 1if kind=1and asked=1or not[1=1]and not1=1", 0);

        SAY.of(5, "Blanks (32) stand between as one likes.");
        rule("ask1", 0);
        rule("   ask   1   ;   ask   2   if   not   [   1   <=   kind   ]   and   2 * 3 = 6   ", 0);
        rule("ask 1 if 1< =2", fault(12, 0));
        rule("as k 1", fault(0, 0));
        rule("ask\t1", fault(3, 0));
        rule("ask 1\n", fault(5, 0));
        rule("ask 1\0", fault(5, 0));
        rule("ask 1\u00a0", fault(5, 0));
        town("  town  2  1  ;  street  0  1  ", 0);
        town("town2 1;street0 1;person1 0 0;stranger1 0 1", 1);
        town("town 2 1;stre et 0 1", fault(9, 0));
    }

    private static void ruleWords() {
        SAY.of(5, "of a STRANGER and a PERSON who stands where he is: stranger, person, kind, asked (how often they were in "
                + "this TERM), before (how often he has ASKED them, in all), others (how many more stand there), place");
        asks("ask 1 if stranger=0", 0, 0);
        asks("ask 1 if stranger>0", 0, NONE);
        asks("ask person", 0, 2);
        asks("ask 1 if person=0", 0, 0);
        asks("ask 1 if kind=9", 0, 1);
        asks("ask 1 if asked=0", 0, 0);
        // Both strangers come in hours 0, 2 and 4, and get there in the hours between: hour 5 begins a TERM.
        asks("ask 9-asked", 2, 2);
        asks("ask 1 if asked=3 and hour=4;ask 1 if person=1 and hour<4", 4, NONE);
        asks("ask 1 if asked=4 and hour=4;ask 1 if person=1 and hour<4", 4, 1);
        asks("ask 1 if asked=0 and person=1 and hour=6;ask 1 if person=1 and hour<5", 6, 1);
        asks("ask 1 if before=3 and hour=6;ask 1 if person=1 and hour<5", 6, 1);
        asks("ask 1 if before=0 and hour=2;ask 1 if person=0 and hour=0", 2, 1);
        SAY.due("each by whom he himself has asked", Sentences.by(CROWD, "ask 1 if person=0 and before=0").hour(), 2);
        asks("ask 1 if others=2", 0, 0);
        asks("ask 1 if others>2 or others<2", 0, NONE);
        asks("ask 1 if place=0", 0, 0);
        WayMayor x = Sentences.by("town 8 9;street 7 6;person 7 1 0;person 6 1 0;stranger 7 6 1",
                "ask 1 if others=0 and place=7 and person=0");
        SAY.due("alone at 7", x.hour(), 1);

        SAY.of(5, "far (how many streets it is from there to where he wants to go; 99 if there is no way)");
        String line = "town 8 9;street 0 1;street 1 2;street 2 3;street 3 4;street 4 5;street 5 6;street 6 7;"
                + "person 0 1 0;stranger 0 7 1";
        SAY.due("7", Sentences.by(line, "ask 1 if far=7").hour(), 1);
        asks("ask 1 if far=1", 0, 0);
        x = Sentences.by(line, "ask 1 if far=99");
        SAY.due("not 99", x.hour(), 0);
        x = Sentences.by(line, "ask 1 if far=99");
        x.shut(7, 6);
        SAY.due("99", x.hour(), 1);
        SAY.due("no street at all", Sentences.by("town 2 1;person 0 1 0;stranger 0 1 1", "ask 1 if far=99").hour(), 1);

        SAY.of(5, "chain (1 if they have it, else 0), term (HOUR % TERM), come (how many STRANGERS have got where they "
                + "wanted), hour.");
        asks("ask 1 if chain=0", 0, 0);
        asks("ask 1 if chain=1", 0, NONE);
        asks("ask 1 if chain=1;ask 1 if person=2 and hour<5", 6, 2);
        asks("ask 1 if chain=0 and hour=6;ask 1 if person=0 and hour<5", 6, 1);
        asks("ask 1 if term=4", 4, 0);
        asks("ask 1 if term=0", 0, 0);
        asks("ask 1 if term=1 and hour=6", 6, 0);
        asks("ask 1 if come=0", 0, 0);
        asks("ask 1 if come=1 or come>2 or come=0 and hour>0", 2, NONE);
        asks("ask 1 if come=2 and hour=2;ask 1 if hour=0", 2, 0);
        asks("ask 1 if hour=0", 0, 0);
        asks("ask 1 if hour=4", 4, 0);
    }

    private static void ruleSums() {
        SAY.of(5, "/ is towards 0, % its rest, both 0 by 0; all goes round in 64 bits.");
        String least = "32768*32768*32768*32768*8";
        test("7/2=3 and 7%2=1", true);
        test("5/0=0 and 5%0=0 and 0/0=0 and 0%0=0", true);
        test("5/0+3=3 and 7-5%0=7 and 5%0*9=0", true);
        test("kind/place=0 and kind%place=0", true);
        test("1/2=0 and 1%2=1", true);
        test(least + "<0", true);
        test(least + "-1>0", true);
        test(least + "+" + least + "=0", true);
        test("65536*65536*65536*65536=0", true);
        // The least number by 3: -3074457345618258602, rest -2; downwards it would be one less, rest 1.
        test(least + "/3*3>" + least, true);
        test(least + "%3+2=0", true);
        test("0-" + least + "/3>0", true);

        SAY.of(5, "SUM: TERM { (+ or -) TERM }. TERM: VALUE { (* or / or %) VALUE }.");
        test("2+3*4=14 and 2*3+4=10", true);
        test("20-5-3=12 and 20-5+3=18", true);
        test("100/5/2=10 and 100/5*2=40 and 17%10*2=14 and 2*17%10=4", true);
        test("1-2*3+6=1 and 0-7/2=0-3 and 10-7%4*2=4", true);
        rule("ask -1", fault(4, 0));
        rule("ask 1+-1", fault(6, 0));
    }

    private static void ruleTests() {
        SAY.of(5, "TEST: PART { or PART }. PART: FACT { and FACT }.");
        test("1=1 or 1=2 and 1=2", true);
        test("1=2 and 1=2 or 1=1", true);
        test("1=2 and 1=1 or 1=2", false);
        test("1=2 or 1=1 and 1=1", true);
        test("1=2 or 1=1 and 1=2", false);
        test("1=1 and 1=1 and 1=2 or 1=2 or 1=1", true);
        test("1=2 or 1=2 or 1=2", false);
        test("1=1 or 1=2 or 1=2 and 1=2", true);

        SAY.of(5, "FACT: not FACT | [ TEST ] (these brackets are signs) | SUM SIGN SUM, SIGN one of < <= = >= >.");
        test("not 1=2 and 1=2", false);
        test("not [1=2 and 1=2]", true);
        test("not 1=1 or 1=1", true);
        test("not [1=1 or 1=1]", false);
        test("not not 1=1", true);
        test("[1=1 or 1=2] and 1=2", false);
        test("1=1 and [1=2 or [1=2 or not 1=2]]", true);
        String[] signs = {"<", "<=", "=", ">=", ">"};
        boolean[] below = {true, true, false, false, false};
        boolean[] like = {false, true, true, true, false};
        boolean[] above = {false, false, false, true, true};
        for (int i = 0; i < 5; i++) {
            test("2" + signs[i] + "3", below[i]);
            test("3" + signs[i] + "3", like[i]);
            test("3" + signs[i] + "2", above[i]);
        }
        rule("ask 1 if 1=>1", fault(11, 0));
        rule("ask 1 if 1<>1", fault(11, 0));
        rule("ask 1 if 1!1", fault(10, 0));
    }

    private static void ruleLimits() {
        SAY.of(5, "[ and not lie within one another 10 deep at most");
        rule("ask 1 if " + "[".repeat(10) + "1=1" + "]".repeat(10), 0);
        rule("ask 1 if " + "[".repeat(11) + "1=1" + "]".repeat(11), fault(19, 2));
        rule("ask 1 if " + "not ".repeat(10) + "1=1", 0);
        rule("ask 1 if " + "not ".repeat(11) + "1=1", fault(49, 2));
        rule("ask 1 if " + "not[".repeat(5) + "1=1" + "]".repeat(5), 0);
        rule("ask 1 if " + "not[".repeat(5) + "[1=1" + "]".repeat(6), fault(29, 2));
        rule("ask 1 if " + "[".repeat(10) + "1=1" + "]".repeat(10) + " or " + "not ".repeat(10) + "1=1;ask 1 if "
                + "[".repeat(10) + "1=1" + "]".repeat(10), 0);
        test("not ".repeat(10) + "1=1", true);
        test("not ".repeat(9) + "1=1", false);

        SAY.of(5, "at most 60 VALUES (of SUMS) and FACTS made of a SIGN, together.");
        rule("ask 1" + "+1".repeat(59), 0);
        rule("ask 1" + "+1".repeat(60), fault(124, 3));
        rule("ask 1" + "+1".repeat(56) + " if 1=1", 0);
        rule("ask 1" + "+1".repeat(57) + " if 1=1", fault(5 + 57 * 2 + 6, 3));
        rule("ask 1" + ";ask 1".repeat(10) + ";ask 1" + "+1".repeat(48), 0);
        rule("ask 1" + ";ask 1".repeat(10) + ";ask 1" + "+1".repeat(49), fault(71 + 48 * 2 + 1, 3));
        String facts = "1=1" + " or 1=1".repeat(18);
        rule("ask 1+1+1 if " + facts, 0);
        rule("ask 1+1+1 if not [[" + facts + "]]", 0);
        rule("ask 1+1+1+1 if " + facts, fault(15 + 7 * 18 + 2, 3));
        asks("ask kind" + "+0".repeat(55) + " if kind=1;ask 2", 0, 0);
        asks("ask 0" + "+0".repeat(58) + "+kind", 0, 1);
    }

    private static void faultsInOrder() {
        SAY.of(4, "FAULTS, the first along the text, 1 + 8 * its place and");
        town("town 9 31;x", fault(5, 1));
        town("town 2 31;x", fault(7, 1));
        town("town 2 1;street 0 0;town 2 1;?", fault(18, 1));
        town("town 2 1;town 9 1", fault(9, 4));
        town("?", -3);
        town("town 2 1" + " ".repeat(391) + "?", -2 - (1 + 8 * 399));
        SAY.of(5, "FAULTS, the first along the text, 1 + 8 * its place and");
        rule("ask 123456 if [", fault(4, 1));
        rule("ask 1 if " + "[".repeat(12) + "?", fault(19, 2));
        rule("?", -3);
        rule("ask 1" + " ".repeat(394) + "?", -2 - (1 + 8 * 399));
    }

    private static void faultCantStand() {
        SAY.of(4, "0 a byte or WORD that can't stand there, or the end (behind the last byte)");
        town("", fault(0, 0));
        town("  ", fault(2, 0));
        town("town", fault(4, 0));
        town("town ", fault(5, 0));
        town("town 2  ", fault(8, 0));
        town("town 2 1;person 1 1 ", fault(20, 0));
        town("towns 2 1", fault(0, 0));
        town("TOWN 2 1", fault(0, 0));
        town("town -2 1", fault(5, 0));
        town("town a 1", fault(5, 0));
        town("town 2 1 a", fault(9, 0));
        town("town 2 1 1", fault(9, 0));
        town("town 2 1,street 0 1", fault(8, 0));
        town("town 2 1;ask 1", fault(9, 0));
        SAY.of(5, "0 a byte or WORD that can't stand there, or the end (behind the last byte)");
        rule("", fault(0, 0));
        rule("ask", fault(3, 0));
        rule("ask  ", fault(5, 0));
        rule("ask 1+ ", fault(7, 0));
        rule("ask 1 if ", fault(9, 0));
        rule("ask 1 if [1=1 ", fault(14, 0));
        rule("ask 1 if 1", fault(10, 0));
        rule("ask 1 if 1=", fault(11, 0));
        rule("ask 1 if 1<=", fault(12, 0));
        rule("ask 1 if 1>=", fault(12, 0));
        rule("ask 1 if 1>", fault(11, 0));
        rule("ask 1 if 1=1 or ", fault(16, 0));
        rule("town 2 1", fault(0, 0));
        rule("ask ask", fault(4, 0));
        rule("ask 1=1", fault(5, 0));
        rule("ask [1]", fault(4, 0));
        rule("ask 1 if 1=1]", fault(12, 0));
        rule("ask 1 if 1=1=1", fault(12, 0));
        rule("ask 1 and 1", fault(6, 0));
        rule("ask 1 if not;", fault(12, 0));
        rule("ask 1 if [1]=1", fault(11, 0));
        rule("ask 1 if and=1", fault(9, 0));
        rule("ask \u00ff", fault(4, 0));
    }

    private static void faultNumbers() {
        SAY.of(4, "1 a NUMBER of more digits, or not as told (of street and stranger the second PLACE, if it is the first)");
        town("town 000002 1", fault(5, 1));
        town("town 00002 00001", 0);
        town("town 99999 1", fault(5, 1));
        town("town 4294967298 1", fault(5, 1));
        town("town 18446744073709551618 1", fault(5, 1));
        town("town 2 65537", fault(7, 1));
        town("town 3 1;street 1 1", fault(18, 1));
        town("town 3 1;street 1 00001", fault(18, 1));
        town("town 3 1;street 0 0", fault(18, 1));
        town("town 3 1;stranger 2 2 1", fault(20, 1));
        town("town 3 1;stranger 0 0 1", fault(20, 1));
        town("town 3 1;street 3 3", fault(16, 1));
        town("town 3 1;street 3 1", fault(16, 1));
        town("town 3 1;street 1 3", fault(18, 1));
        town("town 3 1;street 000000 1", fault(16, 1));
        town("town 3 1;street 0 000001", fault(18, 1));
        town("town 3 1;person 000000 1 1", fault(16, 1));
        town("town 3 1;person 0 000001 1", fault(18, 1));
        town("town 3 1;person 0 1 000001", fault(20, 1));
        town("town 3 1;stranger 000000 1 1", fault(18, 1));
        town("town 3 1;stranger 0 000001 1", fault(20, 1));
        town("town 3 1;stranger 0 1 000001", fault(22, 1));
        town("town 3 1;person 1 1 1", 1);
        SAY.of(5, "1 a NUMBER of more digits, or not as told");
        rule("ask 1 if 1=123456", fault(11, 1));
        rule("ask 1+000000", fault(6, 1));
        rule("ask 4294967297", fault(4, 1));
    }

    private static void faultTooDeep() {
        SAY.of(5, "2 too deep (at the sign that opens, or the word not)");
        rule("ask 1 if " + "[ ".repeat(11) + "1=1", fault(29, 2));
        rule("ask 1 if " + "[ ".repeat(10) + "  not 1=1", fault(31, 2));
        rule("ask 1 if " + "not ".repeat(10) + "  [1=1]", fault(51, 2));
        rule("ask 1 if " + "[".repeat(9) + "[1=1] and not [1=1]", fault(18 + 14, 2));
        rule("ask 1 if " + "[".repeat(9) + "not 1=1 and not not 1=1", fault(18 + 16, 2));
        rule("ask 1 if 1=1;ask 1 if " + "[".repeat(11), fault(22 + 10, 2));
    }

    private static void faultPartTooMany() {
        SAY.of(5, "3 one VALUE or FACT too many (at its first byte; of a FACT at its SIGN)");
        String sixty = "ask 1" + "+1".repeat(59);
        rule(sixty + " + 00001", fault(sixty.length() + 3, 3));
        rule(sixty + " +  kind", fault(sixty.length() + 4, 3));
        rule(sixty + ";ask 1", fault(sixty.length() + 5, 3));
        rule(sixty + " if 1=1", fault(sixty.length() + 4, 3));
        String most = "ask 1" + "+1".repeat(58);
        rule(most + " if kind  >= 1", fault(most.length() + 10, 3));
        String more = "ask 1" + "+1".repeat(57);
        rule(more + " if kind  >=  12", fault(more.length() + 14, 3));
    }

    private static void faultClauses() {
        SAY.of(4, "4 one CLAUSE too many, a second town, another CLAUSE ahead of it, a seventh PERSON, a sixth STRANGER "
                + "(at its first byte).");
        town("town 2 1; town 2 1", fault(10, 4));
        town("town 2 1;street 0 1; town", fault(21, 4));
        town(" street 0 1;town 2 1", fault(1, 4));
        town("person 0 0 0", fault(0, 4));
        town("  stranger", fault(2, 4));
        String six = "town 2 1" + ";person 0 0 0".repeat(6);
        town(six, 6);
        town(six + "; person 9 9 9", fault(six.length() + 2, 4));
        town(six + ";stranger 0 1 1", 6);
        String five = "town 2 1" + ";stranger 0 1 1".repeat(5);
        town(five, 0);
        town(five + ";stranger", fault(five.length() + 1, 4));
        town(five + ";person 0 0 0", 1);
        town(five + ";street 0 1", 0);
        town(six + ";street 0 1", 6);
        SAY.of(5, "4 one CLAUSE too many");
        String twelve = "ask 1" + ";ask 1".repeat(11);
        rule(twelve, 0);
        rule(twelve + ";  ask ?", fault(twelve.length() + 3, 4));
    }

    private static void faultsOfOnePlace() {
        SAY.of(4, "Of one place the least.");
        town("town 2 1 1000000", fault(9, 0));
        town("town 2 1" + ";person 0 0 0".repeat(6) + ";persons", fault(8 + 13 * 6 + 1, 0));
        town("streets 0 1", fault(0, 0));
        SAY.of(5, "Of one place the least.");
        rule("ask 1 1000000", fault(6, 0));
        rule("ask 1" + "+1".repeat(59) + "+1000000", fault(124, 1));
        rule("ask 1" + "+1".repeat(59) + "+kinds", fault(124, 0));
        rule("ask 1" + "+1".repeat(58) + " if 1 ] 1", fault(5 + 58 * 2 + 6, 0));
        rule("ask 1" + "+1".repeat(59) + " if [", fault(5 + 59 * 2 + 5, 0));
        rule("ask 1 if " + "[".repeat(10) + "nots", fault(19, 0));
        rule("ask 1" + ";ask 1".repeat(11) + ";asks", fault(72, 0));
        rule("ask 1" + ";ask 1".repeat(11) + ";", fault(72, 0));
    }
}
