/** The faults of texts: where they stand, which they are, and which of several is told. */
public final class FaultTest {
    private static final Check CHECK = new Check("FaultTest");

    private FaultTest() {
    }

    /** A town that has a fault at that place, of that code. */
    private static void town(String text, int place, int code) {
        CHECK.due("town: " + text, Check.town(new WayMayor(), text), -2 - (1 + 8 * place + code));
    }

    private static void rule(String text, int place, int code) {
        CHECK.due("rule: " + text, Check.rule(new WayMayor(), text), -2 - (1 + 8 * place + code));
    }

    private static void stands(String text) {
        CHECK.due("rule: " + text, Check.rule(new WayMayor(), text), 0);
    }

    public static void main(String[] args) {
        townsThatCantStand();
        townNumbers();
        townClauses();
        rulesThatCantStand();
        depth();
        parts();
        ruleClauses();
        CHECK.close();
    }

    private static void townsThatCantStand() {
        town("", 0, 0);
        town("   ", 3, 0);
        town("Town 2 1", 0, 0);
        town("\0", 0, 0);
        town("\u00e9", 0, 0);
        town(" towns 2 1", 1, 0);
        town("tow", 0, 0);
        town("2 1", 0, 0);
        town(";town 2 1", 0, 0);
        town("town", 4, 0);
        town("town ", 5, 0);
        town("town a 1", 5, 0);
        town("town 2", 6, 0);
        town("town 2 ;", 7, 0);
        town("town 2,1", 6, 0);
        town("town 2 -1", 7, 0);
        town("town 2 1 1", 9, 0);
        town("town 2 1 1000000", 9, 0);
        town("town 2 1street 0 1", 8, 0);
        town("town 2 1;", 9, 0);
        town("town 2 1; ", 10, 0);
        town("town 2 1;;", 9, 0);
        town("town 2 1;street", 15, 0);
        town("town 2 1;street 0 street 1", 18, 0);
        town("town 2 1;person 0 0 0 0", 22, 0);
        town("town 2 1;person 0 0;", 19, 0);
        town("town 2 1;stranger 0 1", 21, 0);
        town("town 2 1\t", 8, 0);
    }

    private static void townNumbers() {
        town("town 1 1", 5, 1);
        town("town 9 1", 5, 1);
        town("town 2 0", 7, 1);
        town("town 2 31", 7, 1);
        town("town 000002 1", 5, 1);
        town("town 100000000000000000002 1", 5, 1);
        town("town 9", 5, 1);
        town("town 4294967298 1", 5, 1);
        town("town 21", 5, 1);
        town("town 3 1;street 3 0", 16, 1);
        town("town 3 1;street 0 3", 18, 1);
        town("town 3 1;street 1 1", 18, 1);
        town("town 3 1;street 1 01", 18, 1);
        town("town 3 1;person 3 0 0", 16, 1);
        town("town 3 1;person 2 10 0", 18, 1);
        town("town 3 1;person 2 9 2", 20, 1);
        town("town 3 1;stranger 3 0 1", 18, 1);
        town("town 3 1;stranger 2 2 1", 20, 1);
        town("town 3 1;stranger 2 3 1", 20, 1);
        town("town 3 1;stranger 2 1 0", 22, 1);
        town("town 3 1;stranger 2 1 21", 22, 1);
        town("town 3 1;stranger 2 1 000001", 22, 1);
    }

    private static void townClauses() {
        town("street 0 1", 0, 4);
        town("  person 0 1 0", 2, 4);
        town("stranger", 0, 4);
        town("town 2 1;town 2 1", 9, 4);
        town("town 2 1; town", 10, 4);
        town("town 2 1" + ";person 0 0 0".repeat(7), 8 + 13 * 6 + 1, 4);
        town("town 2 1" + ";person 0 0 0".repeat(6) + ";person", 8 + 13 * 6 + 1, 4);
        town("town 2 1" + ";stranger 0 1 1".repeat(6), 8 + 15 * 5 + 1, 4);
        town("town 2 1" + ";person 0 0 0".repeat(6) + ";persons", 8 + 13 * 6 + 1, 0);
        town("town2 1" + ";street0 1".repeat(39) + ";s", 398, 0);
        town("town2 1" + ";street0 1".repeat(39) + ";", 398, 0);
        town("town 2 1;street 0 2;town 2 1", 18, 1);
    }

    private static void rulesThatCantStand() {
        rule("", 0, 0);
        rule("as", 0, 0);
        rule("asks 1", 0, 0);
        rule("ask", 3, 0);
        rule("ask  ", 5, 0);
        rule("ask if", 4, 0);
        rule("ask not 1=1", 4, 0);
        rule("ask [1]", 4, 0);
        rule("ask kinds", 4, 0);
        rule("ask kin", 4, 0);
        rule("ask -1", 4, 0);
        rule("ask 1+", 6, 0);
        rule("ask 1+;", 6, 0);
        rule("ask 1 2", 6, 0);
        rule("ask 1kind", 5, 0);
        rule("ask kind2", 8, 0);
        rule("ask 1=1", 5, 0);
        rule("ask 1;", 6, 0);
        rule("ask 1;1", 6, 0);
        rule("ask 1 ask 2", 6, 0);
        rule("ask 1if", 7, 0);
        rule("ask 1 iff", 6, 0);
        rule("ask 1 if 1", 10, 0);
        rule("ask 1 if 1=", 11, 0);
        rule("ask 1 if 1==1", 11, 0);
        rule("ask 1 if 1< =1", 12, 0);
        rule("ask 1 if 1=<1", 11, 0);
        rule("ask 1 if 1<>1", 11, 0);
        rule("ask 1 if 1<==1", 12, 0);
        rule("ask 1 if 1=1=1", 12, 0);
        rule("ask 1 if 1=1 and", 16, 0);
        rule("ask 1 if 1=1 or or", 16, 0);
        rule("ask 1 if 1=1 not 1=1", 13, 0);
        rule("ask 1 if 1=1]", 12, 0);
        rule("ask 1 if [1=1", 13, 0);
        rule("ask 1 if [1=1;", 13, 0);
        rule("ask 1 if [1]=1", 11, 0);
        rule("ask 1 if []", 10, 0);
        rule("ask 1 if not", 12, 0);
        rule("ask 1 if not and", 13, 0);
        rule("ask 1 if 1=1 if 1=1", 13, 0);
        rule("ask 1 if 1=1 xor 1=1", 13, 0);
        rule("ask (1)", 4, 0);
        rule("ask 1\n", 5, 0);
        rule("ask 123456", 4, 1);
        rule("ask 1 if 1=000000", 11, 1);
        stands("ask 99999");
        stands("ask00000*kind%3if[not[kind<=00001]]and 1>0");
        stands("  ask 1  ;  ask  2  if  1  <=  2  ");
    }

    private static void depth() {
        String ten = "[".repeat(10) + "1=1" + "]".repeat(10);
        stands("ask 1 if " + ten);
        stands("ask 1 if " + ten + " and " + ten);
        stands("ask 1 if " + "not ".repeat(10) + "1=1");
        stands("ask 1 if " + "not[".repeat(5) + "1=1" + "]".repeat(5));
        stands("ask 1 if not 1=1 or " + ten);
        rule("ask 1 if [" + ten + "]", 19, 2);
        rule("ask 1 if not " + ten, 9 + 4 + 9, 2);
        rule("ask 1 if " + "not ".repeat(11) + "1=1", 9 + 40, 2);
        rule("ask 1 if " + "not[".repeat(5) + "not 1=1" + "]".repeat(5), 9 + 20, 2);
        rule("ask 1 if " + "[".repeat(9) + "[1=1] and [[1=1]]" + "]".repeat(9), 9 + 9 + 11, 2);
        rule("ask 1 if " + "[".repeat(10) + "nots", 19, 0);
        rule("ask 1 if " + "[".repeat(11), 19, 2);
    }

    private static void parts() {
        stands("ask 1" + "+1".repeat(59));
        rule("ask 1" + "+1".repeat(60), 5 + 59 * 2 + 1, 3);
        rule("ask 1" + "+1".repeat(59) + "+", 5 + 59 * 2 + 1, 0);
        rule("ask 1" + "+1".repeat(59) + "+1234567", 5 + 59 * 2 + 1, 1);
        rule("ask 1" + "+1".repeat(59) + "+kin", 5 + 59 * 2 + 1, 0);
        rule("ask 1" + "+1".repeat(59) + "+kind", 5 + 59 * 2 + 1, 3);
        rule("ask 1" + "+1".repeat(59) + " if 1=1", 5 + 59 * 2 + 4, 3);
        rule("ask 1" + "+1".repeat(58) + " if 1 <= 1", 5 + 58 * 2 + 6, 3);
        rule("ask 1" + "+1".repeat(57) + " if 1 <= 1", 5 + 57 * 2 + 9, 3);
        stands("ask 1" + "+1".repeat(56) + " if 1 <= 1");
        rule("ask 1" + "+1".repeat(58) + " if 1 ] 1", 5 + 58 * 2 + 6, 0);
        stands("ask 1" + "+1".repeat(29) + ";ask 1" + "+1".repeat(29));
        rule("ask 1" + "+1".repeat(29) + ";ask 1" + "+1".repeat(30), 68 + 2 * 30, 3);
        String facts = "1=1" + " or 1=1".repeat(18);
        stands("ask 1+1+1 if " + facts);
        rule("ask 1+1+1+1 if " + facts, 15 + 3 + 7 * 18 - 1, 3);
        // Signs, not and brackets are neither values nor facts made of a sign.
        stands("ask 1+1+1 if not [1=1]" + " or not 1=1".repeat(18));
    }

    private static void ruleClauses() {
        stands("ask 1" + ";ask 1".repeat(11));
        rule("ask 1" + ";ask 1".repeat(12), 72, 4);
        rule("ask 1" + ";ask 1".repeat(11) + "; ask", 73, 4);
        rule("ask 1" + ";ask 1".repeat(11) + ";", 72, 0);
        rule("ask 1" + ";ask 1".repeat(11) + ";asks", 72, 0);
        rule("ask 1" + ";ask 1 if".repeat(12), 14, 0);
    }
}
