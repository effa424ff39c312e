/** Promises 39 (sentence) and 40 (said), with the faults of a sentence's text. */
public final class SentenceTest {
    private static final int NONE = Check.NONE;
    private static final String CITY = "place p;place q;mark m;mark n;mark o;thing t p;thing u p;thing v q;thing w p;"
        + "is t m;is t n;is u m;is v o;person a p 5;person b q 9;";

    public static void main(String[] args) {
        ones();
        joined();
        asThingsChange();
        theKth();
        faults();
        tooMany();
        tooLong();
        aFaultLeavesIt();
        Check.finish();
    }

    private static int saidBits(NounFast x) {
        int bits = 0;
        for (int k = 0; x.said(k) != NONE; k++) {
            bits |= 1 << x.said(k);
        }
        Check.due("said(NONE)", Integer.bitCount(bits), x.said(NONE));
        return bits;
    }

    private static void says(NounFast x, String sentence, int ones, int things) {
        Check.due(sentence, ones, Check.sentence(x, sentence));
        Check.due(sentence + " fault()", 0, x.fault());
        Check.due(sentence + " things", things, saidBits(x));
    }

    private static void ones() {
        NounFast x = Check.with(CITY);
        says(x, "carried", 1, 0);
        says(x, "lone", 1, 5);
        says(x, "has m", 1, 3);
        says(x, "has n", 1, 1);
        says(x, "at p", 1, 11);
        says(x, "at q", 1, 4);
        says(x, "with a", 1, 0);
        says(x, "marks = 0", 1, 8);
        says(x, "marks<2", 1, 14);
        says(x, "marks > 1", 1, 1);
        says(x, "named = 0", 1, 15);
        says(x, "named>0", 1, 0);
        says(x, "number > 1", 1, 12);
        says(x, "number = 001", 1, 2);
        says(x, "number < 999", 1, 15);
        says(x, "not lone", 2, 10);
        says(x, "(lone)", 2, 5);
        says(x, " ( not ( lone ) )\n", 4, 10);
    }

    private static void joined() {
        NounFast x = Check.with(CITY);
        says(x, "has m and has n", 2, 1);
        says(x, "has n or has o", 2, 5);
        // 'and' binds more than 'or', 'not' more than both.
        says(x, "has o or has m and has n", 3, 5);
        says(x, "has m and has n or has o", 3, 5);
        says(x, "(has o or has m) and has n", 4, 1);
        says(x, "not has m and at p", 3, 8);
        says(x, "not (has m and has n)", 4, 14);
        says(x, "not not has m", 3, 3);
        says(x, "number=0 or number=1 or number=2 and has m", 4, 3);
        says(x, "not has m or not has n", 4, 14);
        says(x, "number>0 and number<3 and not at q", 4, 2);
    }

    private static void asThingsChange() {
        NounFast x = Check.with(CITY);
        says(x, "carried", 1, 0);
        x.name(0, 0);
        Check.due("t is carried", 1, saidBits(x));
        says(x, "with a", 1, 1);
        says(x, "with b", 1, 0);
        says(x, "named = 1", 1, 1);
        says(x, "lone", 1, 6);
        x.go(0, 1);
        says(x, "at q", 1, 5);
        x.put(0, 0);
        Check.due("lies there", 5, saidBits(x));
        says(x, "named > 0", 1, 1);
        x.name(1, 0);
        says(x, "named = 2", 1, 1);
    }

    private static void theKth() {
        NounFast x = Check.with(CITY);
        Check.due("no sentence", NONE, x.said(NONE));
        Check.due("no sentence", NONE, x.said(0));
        Check.due("a sentence", 2, Check.sentence(x, "not has n"));
        Check.due("how many", 3, x.said(NONE));
        Check.due("the first", 1, x.said(0));
        Check.due("the last", 3, x.said(2));
        Check.due("no more", NONE, x.said(3));
        Check.due("none such", NONE, x.said(-2));
        Check.due("none such", NONE, x.said(Integer.MIN_VALUE));
        Check.due("none such", NONE, x.said(Integer.MAX_VALUE));
        Check.due("of none", 1, Check.sentence(x, "carried"));
        Check.due("how many", 0, x.said(NONE));
        Check.due("none such", NONE, x.said(0));
        NounFast y = new NounFast();
        Check.due("in an empty city", 1, Check.sentence(y, "lone"));
        Check.due("none", 0, y.said(NONE));
    }

    private static void bad(String sentence, int place, int kind) {
        NounFast x = Check.with(CITY);
        Check.due(sentence, -1 - place, Check.sentence(x, sentence));
        Check.due(sentence + " fault()", kind, x.fault());
        Check.due(sentence + " said", NONE, x.said(NONE));
    }

    private static void faults() {
        bad("", 0, 1);
        bad("  ", 2, 1);
        bad("not", 3, 1);
        bad("lone lone", 5, 1);
        bad("lone and", 8, 1);
        bad("lone or or lone", 8, 1);
        bad("lone;", 4, 1);
        bad("and lone", 0, 1);
        bad("(lone", 5, 1);
        bad("(lone and carried ", 18, 1);
        bad("lone)", 4, 1);
        bad("()", 1, 1);
        bad("place", 0, 1);
        bad("m", 0, 1);
        bad("has", 3, 1);
        bad("has 1", 4, 1);
        bad("has mark", 4, 1);
        bad("has x", 4, 3);
        bad("has p", 4, 3);
        bad("at m", 3, 3);
        bad("with t", 5, 3);
        bad("with 1", 5, 1);
        bad("marks 1", 6, 1);
        bad("marks <", 7, 1);
        bad("marks < x", 8, 1);
        bad("marks < = 1", 8, 1);
        bad("marks < 1000", 8, 1);
        bad("named ( 1", 6, 1);
        bad("number = lone", 9, 1);
        bad("lone.", 4, 1);
        bad("lone AND lone", 5, 1);
    }

    private static void tooMany() {
        NounFast x = Check.with(CITY);
        says(x, "lone" + " and lone".repeat(19), 20, 5);
        bad("lone" + " or lone".repeat(20), 4 + 19 * 8 + 4, 4);
        bad("lone" + " or lone".repeat(19) + " or 1", 4 + 19 * 8 + 4, 1);
        bad("lone" + " or lone".repeat(19) + " or (", 4 + 19 * 8 + 4, 4);
        says(x, "not ".repeat(7) + "lone", 8, 10);
        bad("not ".repeat(8) + "lone", 32, 4);
        bad("not ".repeat(9) + "lone", 32, 4);
        says(x, "(".repeat(7) + "lone" + ")".repeat(7), 8, 5);
        bad("(".repeat(8) + "lone" + ")".repeat(8), 8, 4);
        bad("(".repeat(8) + ")", 8, 1);
        says(x, "(".repeat(7) + "lone or carried" + ")".repeat(7) + " and " + "not ".repeat(7) + "lone", 17, 0);
        says(x, "(not".repeat(3) + "(lone and carried)" + ")".repeat(3), 9, 15);
    }

    private static void tooLong() {
        String blanks = " ".repeat(300);
        NounFast x = Check.with(CITY);
        says(x, blanks.substring(0, 196) + "lone", 1, 5);
        bad("lone" + blanks.substring(0, 197), 200, 1);
        bad(blanks.substring(0, 197) + "lone", 200, 1);
        bad(blanks.substring(0, 196) + "has x", 200, 1);
        bad(blanks.substring(0, 195) + "has x", 199, 3);
        bad(blanks.substring(0, 195) + "has xx", 199, 3);
        bad(blanks, 200, 1);
        bad(blanks.substring(0, 199) + "lonelonely", 199, 1);
    }

    private static void aFaultLeavesIt() {
        NounFast x = Check.with(CITY);
        says(x, "has m", 1, 3);
        Check.due("a fault", -5, Check.sentence(x, "has x"));
        Check.due("it stays", 3, saidBits(x));
        Check.due("a city with a fault", -1, Check.city(x, "x"));
        Check.due("it stays", 3, saidBits(x));
        Check.due("a city", 0, Check.city(x, ""));
        Check.due("no sentence", NONE, x.said(NONE));
    }
}
