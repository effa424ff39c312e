/**
 * The edges of books lived, of sentences said, of images and of what is kept and no longer kept (promises 37 to 42 and
 * 'What it is'), one method for each sentence. The limits of the texts are in EdgesOfTextsTest.
 */
public final class EdgesOfTellingTest {
    private static final int NONE = Check.NONE;
    private static final int MIN = Integer.MIN_VALUE;
    private static final int MAX = Integer.MAX_VALUE;
    private static final String CITY = "place p;place q;mark m;mark n;thing t p;thing u p;thing v q;is t m;is u m;is u n;"
        + "person a p 5;person b p 5;person c q 5 foreign;knows b m;knows b n;fast 1;wage 0;fine 5;mite 5;";

    public static void main(String[] args) {
        books();
        sentences();
        images();
        whatIsKept();
        fiveHundredAndTwelveCalls();
        Check.finish();
    }

    private static void books() {
        theLineThatIsWrong();
        otherLives();
        placesOfFaults();
        whyItWasWrong();
        fewerDaysAreLeft();
        judgedAllStaysAsItIs();
        livedAsFarAsItIsNotWrong();
        toldOfTheLatest();
    }

    // 37: "the LINE that is WRONG; NONE: none"
    private static void theLineThatIsWrong() {
        NounFast x = Check.with(CITY);
        Check.due("no line", NONE, Check.book(x, 0, ""));
        Check.due("one line", NONE, Check.book(x, 0, "a goes q;"));
        Check.due("the first", 0, Check.book(x, 0, "a goes p;"));
        Check.due("the first of two that are", 0, Check.book(x, 0, "a goes p;a goes p;"));
        Check.due("the last of forty", 39, Check.book(x, 0, "day 1;".repeat(39) + "a goes p;"));
        Check.due("lines that are not", 39, x.told(1));
        Check.due("the day then", 39, x.told(2));
        Check.due("none of forty", NONE, Check.book(x, 0, "day 1;".repeat(39) + "a goes q;"));
        Check.due("lines that are not", 40, x.told(1));
    }

    // 37: "-1000: another lives (the tape stays)". 5: "(a book() of -1000 leaves it)"
    private static void otherLives() {
        NounFast x = Check.with(CITY);
        Check.due("a fault", -1 - 5, Check.city(x, "fine 0;"));
        Check.text(x, "day 2;");
        for (int lives : new int[] {MIN, -1, 2, MAX}) {
            Check.due("book(" + lives + ")", -1000, x.book(lives));
            Check.due("the tape stays", 6, x.count(8));
            Check.due("the fault stays", 2, x.fault());
            Check.due("nothing is told", NONE, x.told(0));
        }
        Check.due("it is a book still", NONE, x.book(1));
        Check.due("lived", 2, x.now(0));
        Check.due("no fault", 0, x.fault());
    }

    // 37: "-2 less the place of a FAULT"
    private static void placesOfFaults() {
        NounFast x = Check.with(CITY);
        Check.due("at the first byte", -2, Check.book(x, 0, ";"));
        Check.due("at the second", -3, Check.book(x, 1, " ;"));
        Check.due("at the last that there may be", -2 - 399, Check.book(x, 0, " ".repeat(399) + ";"));
        Check.due("at the most", -2 - 400, Check.book(x, 1, " ".repeat(401)));
        Check.due("nothing was lived", NONE, x.undo());
        Check.due("nothing is told", NONE, x.told(0));
    }

    private static void wrong(String book, int why) {
        for (int lives = 0; lives < 2; lives++) {
            NounFast x = Check.with(CITY);
            int lines = book.length() - book.replace(";", "").length();
            Check.due(book, why == 0 ? NONE : lines - 1, Check.book(x, lives, book));
            Check.due("why of " + book, why, x.told(0));
            Check.due("lines of " + book, why == 0 ? lines : lines - 1, x.told(1));
        }
    }

    // 38: "1 as for going, 11, 12 asking, 21, 22 naming, 31, 32 pointing, 41 putting, 51, 52 learning"
    private static void whyItWasWrong() {
        wrong("a goes q;", 0);
        wrong("a goes p;", 1);
        wrong("a asks b m;", 0);
        wrong("a asks a m;", 11);
        wrong("a asks c m;", 11);
        wrong("a names u;a asks b m n;", 12);
        wrong("a names t;", 0);
        wrong("a names v;", 21);
        wrong("a names t;a names t;", 21);
        // On a fast five coins are as many as the fine, and are gone then.
        wrong("day 1;a names t;", 0);
        wrong("day 1;a names t;a names u;", 22);
        wrong("day 1;a names t;a names v;", 21);
        wrong("day 1;c names v;c puts v;c names v;", 0);
        wrong("a points t;", 0);
        wrong("a points v;", 31);
        wrong("day 1;a points t;", 0);
        wrong("day 1;a points t;a points u;", 32);
        wrong("day 1;c points v;c puts v;c points v;", 32);
        wrong("a names t;a puts t;", 0);
        wrong("a puts t;", 41);
        wrong("a names t;b puts t;", 41);
        wrong("a learns b;a learns b;", 0);
        wrong("a learns a;", 51);
        wrong("a learns c;", 51);
        wrong("b learns a;", 52);
        wrong("a learns b;a learns b;a learns b;", 52);
    }

    // 38: "61: fewer DAYS are left"
    private static void fewerDaysAreLeft() {
        NounFast x = Check.with(CITY);
        Check.passTo(x, 340);
        Check.due("sixty are left", NONE, Check.book(x, 0, "day 60;"));
        Check.due("the day then", 400, x.told(2));
        Check.due("not sixty-one", 1, Check.book(x, 0, "day 1;day 60;"));
        Check.due("why", 61, x.told(0));
        Check.due("none of the sixty goes", 341, x.told(2));
        Check.due("nor when it is lived", 1, Check.book(x, 1, "day 59;day 2;"));
        Check.due("the day", 399, x.now(0));
        Check.due("the last", NONE, Check.book(x, 1, "day 1;"));
        Check.due("none is left", 0, Check.book(x, 1, "day 1;"));
        Check.due("why", 61, x.told(0));
        Check.due("the day", 400, x.now(0));
        Check.due("acts need no day", NONE, Check.book(x, 0, "a goes q;"));
    }

    // 37: "it is judged, all staying as it is (lives 0)"
    private static void judgedAllStaysAsItIs() {
        NounFast x = Check.with(CITY);
        Check.due("judged", NONE, Check.book(x, 0, "a asks b m;a learns b;day 1;b names u;b goes q;b puts u;day 60;"));
        Check.due("the day then", 61, x.told(2));
        Check.due("carried then", 1, x.told(3));
        Check.due("the day", 0, x.now(0));
        Check.due("carried", 0, x.now(3));
        Check.due("guesses", 0, x.now(4));
        Check.due("fines", 0, x.now(5));
        Check.due("coins", 15, x.now(2));
        Check.due("marks", 0, x.person(0, 2));
        Check.due("place", 0, x.person(1, 0));
        Check.due("lies", 3, x.lies(0));
        Check.due("named", 0, x.thing(1, 3));
        Check.due("nothing can be undone", NONE, x.undo());
    }

    // 37: "or lived as far as it is not WRONG (1)". 17: "a BOOK that was lived"
    private static void livedAsFarAsItIsNotWrong() {
        NounFast x = Check.with(CITY);
        Check.due("lived up to the wrong line", 3, Check.book(x, 1, "a names t;day 1;b points u;b names u;day 9;"));
        Check.due("the day", 1, x.now(0));
        Check.due("carried", 3, x.now(3));
        Check.due("the rest of it is not lived", 1, x.told(2));
        Check.due("as one act", 0, x.undo());
        Check.due("the day", 0, x.now(0));
        Check.due("carried", 0, x.now(3));
        Check.due("told stays", 1, x.told(2));
        Check.due("forty lines are one act", NONE, Check.book(x, 1, "day 1;".repeat(40)));
        Check.due("the day", 40, x.now(0));
        Check.due("undone", 0, x.undo());
        Check.due("the day", 0, x.now(0));
        // Lived as far as it was not wrong: not at all. It is a book that was lived all the same.
        Check.due("the first is wrong", 0, Check.book(x, 1, "a goes p;"));
        Check.due("undone", 0, x.undo());
        Check.due("no line", NONE, Check.book(x, 1, ""));
        Check.due("undone", 0, x.undo());
    }

    // 38: "Of the latest book() that had no FAULT (and was not -1000)"; "NONE: another what, or ahead of any"
    private static void toldOfTheLatest() {
        NounFast x = Check.with(CITY);
        for (int what = -1; what < 5; what++) {
            Check.due("ahead of any", NONE, x.told(what));
        }
        Check.due("a fault", -2 - 6, Check.book(x, 1, "day 1;x"));
        Check.due("another lives", -1000, x.book(3));
        Check.due("still ahead of any", NONE, x.told(2));
        Check.due("a book", 2, Check.book(x, 0, "a names t;day 7;b names t;"));
        for (int i = 0; i < 5; i++) {
            Check.due("why", 21, x.told(0));
            Check.due("lines", 2, x.told(1));
            Check.due("the day", 7, x.told(2));
            Check.due("carried", 1, x.told(3));
            toldStays(x, i);
        }
        for (int what : new int[] {MIN, -1, 4, MAX}) {
            Check.due("another what", NONE, x.told(what));
        }
        Check.due("a book of no lines", NONE, Check.book(x, 0, ""));
        for (int what = 0; what < 4; what++) {
            Check.due("none of it is left", 0, x.told(what));
        }
    }

    private static void toldStays(NounFast x, int i) {
        if (i == 0) {
            Check.due("a fault", -2 - 4, Check.book(x, 0, "day 0;"));
        } else if (i == 1) {
            Check.due("another lives", -1000, x.book(-5));
        } else if (i == 2) {
            Check.due("image", true, x.image(0));
            Check.due("restore", true, x.restore(0));
        } else if (i == 3) {
            Check.due("another city", 0, Check.city(x, ""));
        }
    }

    private static void sentences() {
        howManyOnes();
        whatEachOneSays();
        joinedOnes();
        lone();
        numbersOfAThing();
        theKth();
        noSentence();
    }

    // 39: "how many ONES (each not, bracket and other one)"
    private static void howManyOnes() {
        NounFast x = Check.with(CITY);
        Check.due("one", 1, Check.sentence(x, "carried"));
        Check.due("a bracket", 2, Check.sentence(x, "(carried)"));
        Check.due("a not", 2, Check.sentence(x, "not carried"));
        Check.due("two and two", 4, Check.sentence(x, "not (carried or lone)"));
        Check.due("seven", 7, Check.sentence(x, "has m and at p or with a and marks<1 or named=0 or number>0 and lone"));
    }

    // "'carried'", "'has' MARK", "'at' PLACE (it is there, carried or not)", "'with' PERSON (he carries it)"
    private static void whatEachOneSays() {
        NounFast x = Check.with(CITY);
        said(x, "carried", 0);
        said(x, "not carried", 7);
        said(x, "has m", 3);
        said(x, "has n", 2);
        said(x, "at p", 3);
        said(x, "at q", 4);
        said(x, "with a", 0);
        Check.due("a takes t", 0, x.name(0, 0));
        Check.due("a goes", 0, x.go(0, 1));
        said(x, "carried", 1);
        said(x, "has m", 3);
        said(x, "at p", 2);
        said(x, "at q", 5);
        said(x, "with a", 1);
        said(x, "with b", 0);
        said(x, "with a or with b or with c", 1);
    }

    // "COND: ALL { 'or' ALL }. ALL: ONE { 'and' ONE }. ONE: 'not' ONE | ( COND )", up to the last of twenty ones
    private static void joinedOnes() {
        NounFast x = Check.with(Check.fullCity());
        said(x, "number<3 and number>0", 6);
        said(x, "number<1 or number>6", 129);
        said(x, "number=7 or number<3 and number>0", 134);
        said(x, "number<3 and number>0 or number=7", 134);
        said(x, "(number=7 or number<3) and number>0", 134);
        said(x, "(number=7 or number<3) and not number>0", 1);
        said(x, "not number=7 and number>4", 96);
        said(x, "not (number=7 and number>4)", 127);
        said(x, "carried" + " or carried".repeat(16) + " or number=6", 64);
        NounFast y = Check.with(Check.fullCity());
        said(y, "at pa" + " and at pa".repeat(18) + " and number=4", 16);
        said(y, "at pa" + " and at pa".repeat(18) + " and number=5", 0);
        said(y, "at pa" + " or at pa".repeat(18) + " or number=5", 49);
        said(y, "not ".repeat(7) + "at pa", 238);
        said(y, "(".repeat(7) + "number=1 or number=2" + ")".repeat(7), 6);
        said(y, "number=0 and(number=1 and(number=2 and(number=3 or number=4)or number=5)or number=0)or number=6", 65);
    }

    private static void said(NounFast x, String sentence, int things) {
        Check.due("fault of " + sentence, 1, Check.sentence(x, sentence) > 0 ? 1 : 0);
        int bits = 0;
        int many = x.said(NONE);
        for (int k = 0; k < many; k++) {
            bits |= 1 << x.said(k);
        }
        Check.due(sentence, things, bits);
        Check.due("how many: " + sentence, Integer.bitCount(things), many);
        Check.due("no more: " + sentence, NONE, x.said(many));
    }

    // "'lone' (it lies, and no other THING that lies there has all its MARKS)"
    private static void lone() {
        NounFast x = Check.with(CITY);
        said(x, "lone", 6);
        Check.due("what has all its marks is carried", 0, x.name(0, 1));
        said(x, "lone", 5);
        Check.due("a goes", 0, x.go(0, 1));
        Check.due("a puts it down", 0, x.put(0, 1));
        // v has no marks, so each other thing there has all of them.
        said(x, "lone", 3);
        said(Check.with("place p;mark m;thing t p;thing u p;is t m;"), "lone", 1);
        NounFast y = Check.with("place p;mark m;thing t p;thing u p;is t m;is u m;person a p 1;");
        said(y, "lone", 0);
        Check.due("one is carried", 0, y.name(0, 1));
        said(y, "lone", 1);
        Check.due("both are", 0, y.name(0, 0));
        said(y, "lone", 0);
    }

    // "( 'marks' | 'named' | 'number' ) SIGN NUMBER"
    private static void numbersOfAThing() {
        StringBuilder city = new StringBuilder(Check.fullCity());
        for (int m = 0; m < 10; m++) {
            city.append("is th m").append(Check.letter(m)).append(';');
        }
        NounFast x = Check.with(city.toString());
        said(x, "number < 0", 0);
        said(x, "number < 1", 1);
        said(x, "number = 0", 1);
        said(x, "number > 0", 254);
        said(x, "number = 7", 128);
        said(x, "number > 6", 128);
        said(x, "number > 7", 0);
        said(x, "number < 7", 127);
        said(x, "number < 999", 255);
        said(x, "number = 008", 0);
        said(x, "marks = 10", 128);
        said(x, "marks > 10", 0);
        said(x, "marks > 9", 128);
        said(x, "marks < 10", 127);
        said(x, "marks < 11", 255);
        NounFast y = Check.with(city.toString());
        said(y, "marks = 0", 127);
        said(y, "marks < 0", 0);
        said(y, "named = 0", 255);
        said(y, "named > 0", 0);
        Check.due("named once", 0, y.name(0, 0));
        Check.due("put", 0, y.put(0, 0));
        Check.due("named once", 0, y.name(0, 4));
        Check.due("named twice", 0, y.name(0, 0));
        said(y, "named = 0", 238);
        said(y, "named < 2", 254);
        said(y, "named = 2", 1);
        said(y, "named > 1", 1);
        said(y, "named > 2", 0);
        Check.due("one is undone", 3, y.undo());
        said(y, "named = 1", 17);
    }

    // 40: "how many (k NONE), or the k-th. NONE: there is no SENTENCE, none such."
    private static void theKth() {
        NounFast x = Check.with(Check.fullCity());
        Check.due("a sentence", 2, Check.sentence(x, "number=7 or number=2"));
        Check.due("how many", 2, x.said(NONE));
        Check.due("the first", 2, x.said(0));
        Check.due("the second", 7, x.said(1));
        for (int k : new int[] {MIN, -2, 2, 7, 8, MAX}) {
            Check.due("said(" + k + ")", NONE, x.said(k));
        }
        Check.due("all", 1, Check.sentence(x, "number<8"));
        Check.due("how many", 8, x.said(NONE));
        Check.due("the last", 7, x.said(7));
        Check.due("no more", NONE, x.said(8));
        Check.due("none", 1, Check.sentence(x, "carried"));
        Check.due("how many", 0, x.said(NONE));
        Check.due("no first", NONE, x.said(0));
    }

    // "A new CITY: .. no SENTENCE." 39: "-1 less the place of a FAULT: it stays"
    private static void noSentence() {
        NounFast x = new NounFast();
        Check.due("no sentence", NONE, x.said(NONE));
        Check.due("no sentence", NONE, x.said(0));
        Check.due("a fault ahead of any", -1, Check.sentence(x, ""));
        Check.due("no sentence", NONE, x.said(NONE));
        Check.due("a sentence of an empty city", 2, Check.sentence(x, "not carried"));
        Check.due("it has no things", 0, x.said(NONE));
        Check.due("a city", 19, Check.city(x, CITY));
        Check.due("no sentence", NONE, x.said(NONE));
        Check.due("a sentence", 1, Check.sentence(x, "has m"));
        Check.due("a fault", -1 - 6, Check.sentence(x, "has m carried"));
        Check.due("it stays", 2, x.said(NONE));
        Check.due("a city with a fault", -1 - 7, Check.city(x, "mark m;x"));
        Check.due("it stays", 2, x.said(NONE));
        Check.due("a day", 1, x.days(1));
        Check.due("undone", 0, x.undo());
        Check.due("it stays", 2, x.said(NONE));
    }

    private static void images() {
        placesOfImages();
        allThatIsSoIsKept();
        whatARestoringLeaves();
    }

    // 41: "in place k (0, 1): true; false: no such one". 42: "false: no such one, or nothing is kept there"
    private static void placesOfImages() {
        NounFast x = Check.with(CITY);
        for (int k : new int[] {MIN, -1, 2, MAX}) {
            Check.due("image(" + k + ")", false, x.image(k));
            Check.due("restore(" + k + ")", false, x.restore(k));
        }
        Check.due("nothing is kept", false, x.restore(0));
        Check.due("nothing is kept", false, x.restore(1));
        Check.due("image(0)", true, x.image(0));
        Check.due("nothing is kept there", false, x.restore(1));
        Check.due("restore(0)", true, x.restore(0));
        Check.due("image(1)", true, x.image(1));
        Check.due("restore(1)", true, x.restore(1));
        Check.due("it is kept on", true, x.restore(1));
        Check.due("an empty city is kept, too", true, new NounFast().image(1));
    }

    // 41: "CITY, all that is so and the SENTENCE are kept"
    private static void allThatIsSoIsKept() {
        NounFast x = new NounFast();
        Check.due("the empty city", true, x.image(0));
        Check.due("a city", 19, Check.city(x, CITY));
        Check.due("guess", 0, x.ask(0, 1, 1));
        Check.due("learn", 0, x.learn(0, 1));
        Check.due("go", 0, x.go(0, 1));
        Check.due("day", 1, x.days(1));
        Check.due("name", 0, x.name(1, 1));
        Check.due("sentence", 1, Check.sentence(x, "carried"));
        Check.due("image", true, x.image(1));
        Check.due("put", 0, x.put(1, 1));
        Check.due("another sentence", 2, Check.sentence(x, "not carried"));
        Check.due("the empty city", true, x.restore(0));
        Check.due("no things", 0, x.count(2));
        Check.due("the fine without", 3, x.count(4));
        Check.due("no sentence", NONE, x.said(NONE));
        Check.due("day", 0, x.now(0));
        Check.due("the later one", true, x.restore(1));
        int[] now = {1, 1, 10, 3, 1, 1, 0};
        for (int what = 0; what < 7; what++) {
            Check.due("now(" + what + ")", now[what], x.now(what));
        }
        Check.due("the fine", 5, x.count(4));
        Check.due("where he is", 1, x.person(0, 0));
        Check.due("what he learnt", 1, x.person(0, 2));
        Check.due("who is foreign", 1, x.person(2, 4));
        Check.due("named", 1, x.thing(1, 3));
        Check.due("the sentence", 2, x.said(NONE));
        Check.due("its names", 0, Check.book(x, 0, "a goes q;"));
        // The place is used once more: what was kept there is kept no longer.
        Check.due("day", 1, x.days(1));
        Check.due("image", true, x.image(1));
        Check.due("the empty city", true, x.restore(0));
        Check.due("the latest of this place", true, x.restore(1));
        Check.due("its day", 2, x.now(0));
    }

    // 42: "(the tape, and what other calls told last, stays; nothing can be undone)"
    private static void whatARestoringLeaves() {
        NounFast x = Check.with(CITY);
        Check.due("image", true, x.image(0));
        Check.due("day", 1, x.days(1));
        Check.due("an image leaves what can be undone", 0, x.undo());
        Check.due("go", 0, x.go(0, 1));
        Check.due("no restoring", false, x.restore(1));
        Check.due("leaves what can be undone", 0, x.undo());
        Check.due("go", 0, x.go(0, 1));
        Check.due("a fault", -1, Check.city(x, "x"));
        x.feed(0x64617920, 0x323b2020, 0x20202020, 0x20202020, 0x20202020);
        Check.due("restore", true, x.restore(0));
        Check.due("nothing can be undone", NONE, x.undo());
        Check.due("he is where he was", 0, x.person(0, 0));
        Check.due("the fault", 1, x.fault());
        Check.due("the tape", 20, x.count(8));
        Check.due("is a book", NONE, x.book(1));
        Check.due("the day", 2, x.now(0));
        Check.due("restore", true, x.restore(0));
        Check.due("told", 2, x.told(2));
        Check.due("the image is as it was", 0, x.now(0));
        Check.due("an act behind it", 0, x.go(0, 1));
        Check.due("can be undone", 0, x.undo());
        Check.due("he is where he was", 0, x.person(0, 0));
        Check.due("no more", NONE, x.undo());
    }

    private static void whatIsKept() {
        latestOnes();
        undoingLeavesWhatWasTold();
        newCity();
    }

    /** Each call that tells something to be asked for later. */
    private static void tellAll(NounFast x) {
        Check.due("say", 1, x.say(1, 1));
        Check.due("cover", 0, x.cover(2));
        Check.due("spoken", 2, Check.spoken(x, 1, 0, 0));
        Check.due("rest", 2, x.rest(0));
        Check.due("phrase", 1, x.phrase(1));
        Check.due("book", 1, Check.book(x, 0, "day 3;a goes p;"));
    }

    private static void allIsTold(NounFast x) {
        Check.due("saying", 2, x.saying());
        Check.due("covering", 0, x.covering());
        Check.due("surely", 2, x.surely());
        Check.due("show", 0, x.show());
        Check.due("rested", 0, x.rested(0));
        Check.due("rested", 1, x.rested(1));
        Check.same("phrase", "u", Check.phrase(x));
        Check.due("told", 1, x.told(0));
        Check.due("told", 3, x.told(2));
    }

    // "by the latest .. that was not NONE": what comes to nothing leaves it.
    private static void latestOnes() {
        NounFast x = Check.with(CITY);
        tellAll(x);
        allIsTold(x);
        Check.due("say", NONE, x.say(0, 1));
        Check.due("cover", NONE, x.cover(0));
        Check.due("spoken", NONE, Check.spoken(x, 1, 0));
        Check.due("spoken", 0, Check.spoken(x, 0, 0, 0));
        Check.due("rest", NONE, x.rest(2));
        Check.due("phrase", NONE, x.phrase(3));
        Check.due("book", -2, Check.book(x, 0, "x"));
        allIsTold(x);
    }

    private static void undoingLeavesWhatWasTold() {
        NounFast x = Check.with(CITY);
        Check.due("an act", 0, x.go(2, 0));
        Check.due("an act", 0, x.go(2, 1));
        tellAll(x);
        Check.due("undone", 1, x.undo());
        Check.due("undone", 0, x.undo());
        allIsTold(x);
    }

    // "A new CITY: DAY 0, nothing carried, nothing NAMED, no SENTENCE."
    private static void newCity() {
        NounFast x = Check.with(CITY);
        tellAll(x);
        Check.due("ask", 0, x.ask(0, 1, 1));
        Check.due("day", 1, x.days(1));
        Check.due("name", 0, x.name(1, 1));
        Check.due("sentence", 1, Check.sentence(x, "carried"));
        Check.due("the city again", 19, Check.city(x, CITY));
        int[] now = {0, 0, 15, 0, 0, 0, 1};
        for (int what = 0; what < 7; what++) {
            Check.due("now(" + what + ") of a new city", now[what], x.now(what));
        }
        Check.due("never named", 0, x.thing(1, 3));
        Check.due("no sentence", NONE, x.said(NONE));
        Check.due("nothing can be undone", NONE, x.undo());
        Check.due("an act in it", 0, x.go(0, 1));
        Check.due("can be undone", 0, x.undo());
        Check.due("he is where he was", 0, x.person(0, 0));
        allIsTold(x);
    }

    // "An object is used for at most 512 calls after it has been made"
    private static void fiveHundredAndTwelveCalls() {
        NounFast x = new NounFast();
        Check.text(x, "place p;thing t p;person a p 9;person b p 9;mite 0;");
        Check.due("city", 5, x.city());
        // The length of the tape, three times feed(), end() and city().
        int calls = 6;
        while (calls < 510) {
            Check.due("point", 0, x.point(0, 0));
            Check.due("put", 0, x.put(0, 0));
            calls += 2;
        }
        Check.due("call 511", 7, x.undo());
        Check.due("call 512", 0, x.thing(0, 1));
        NounFast y = new NounFast();
        for (int i = 0; i < 511; i++) {
            Check.due("an empty city", 0, y.city());
        }
        Check.due("call 512", 3, y.count(4));
    }
}
