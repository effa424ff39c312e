/**
 * The edges of the tape, of what is told of a city, of the acts, the days and undoing (promises 1 to 3, 6 to 17, 43
 * and '==== 2.' of the terms), one method for each sentence.
 */
public final class EdgesOfActsTest {
    private static final int NONE = Check.NONE;
    private static final int MIN = Integer.MIN_VALUE;
    private static final int MAX = Integer.MAX_VALUE;

    public static void main(String[] args) {
        tape();
        whatThereIs();
        fasts();
        going();
        asking();
        naming();
        pointing();
        putting();
        learning();
        days();
        undoing();
        Check.finish();
    }

    private static void tape() {
        anEmptyCity();
        twentyBytesOfEachNumberTheHighestFirst();
        noMoreThanNineHundredAndForty();
        itsFirstBytesAlone();
    }

    // 1: "An empty CITY; an empty tape."
    private static void anEmptyCity() {
        NounFast x = new NounFast();
        for (int what = 0; what < 4; what++) {
            Check.due("count(" + what + ") of a new one", 0, x.count(what));
        }
        int[] now = {0, 0, 0, 0, 0, 0, 5};
        for (int what = 0; what < 7; what++) {
            Check.due("now(" + what + ") of a new one", now[what], x.now(what));
        }
        Check.due("no fault", 0, x.fault());
        Check.due("its tape", 0, x.count(8));
        Check.due("no byte to end at", false, x.end(1));
        Check.due("an empty text is a city", 0, x.city());
        Check.due("an empty book", NONE, x.book(0));
        Check.due("days go by in it", 60, x.days(60));
        Check.due("all coins", 0, x.now(2));
        Check.throwsNoSuch("thing(0, 0)", () -> x.thing(0, 0));
        Check.throwsNoSuch("person(0, 0)", () -> x.person(0, 0));
        Check.throwsNoSuch("slip(0, 0, 0)", () -> x.slip(0, 0, 0));
    }

    // 2: "Twenty bytes come behind the tape, of each number the highest first"
    private static void twentyBytesOfEachNumberTheHighestFirst() {
        NounFast x = Check.with("place p;mark m;thing t p;person a p 1;");
        Check.due("twenty", 20, x.feed(0x00000100, -1, -1, -1, -1));
        Check.due("the first three", true, x.end(3));
        Check.due("a, t, it fits", 2, x.spoken());
        Check.due("twenty", 20, x.feed(0x6c6f6e65, 0x20202020, 0x0a0a0a0a, 0x20202020, 0x2020200a));
        Check.due("lone", 1, x.sentence());
        // A byte of 128 and more is no less than nought.
        Check.due("twenty", 20, x.feed(0xff800001, 0, 0, 0, 0));
        Check.due("the first three", true, x.end(3));
        Check.due("no such person", NONE, x.spoken());
    }

    // 2: "NONE, and none come, if it would have more than 940"
    private static void noMoreThanNineHundredAndForty() {
        NounFast x = new NounFast();
        for (int i = 1; i <= 47; i++) {
            Check.due("feed", 20 * i, x.feed(0x20202020, 0x20202020, 0x20202020, 0x20202020, 0x20202020));
        }
        Check.due("full", NONE, x.feed(0x20202020, 0x20202020, 0x20202020, 0x20202020, 0x20202020));
        Check.due("none came", 940, x.count(8));
        for (int n = 939; n > 920; n--) {
            Check.due("end", true, x.end(n));
            Check.due("there is no room for twenty", NONE, x.feed(0, 0, 0, 0, 0));
            Check.due("none came", n, x.count(8));
        }
        Check.due("end", true, x.end(920));
        Check.due("room for twenty", 940, x.feed(0x3b3b3b3b, 0, 0, 0, 0));
        Check.due("end", true, x.end(921));
        // The bytes that did not come are not seen: the tape still is 920 blanks, then a ';'.
        Check.due("the most bytes of a city", -1 - 900, x.city());
        Check.due("empty again", 20, x.feed(0, 0, 0, 0, 0));
    }

    // 3: "The tape has its first n bytes alone: true; false, if it has not so many, or n is below 0."
    private static void itsFirstBytesAlone() {
        NounFast x = new NounFast();
        Check.due("none of none", true, x.end(0));
        Check.due("one of none", false, x.end(1));
        Check.due("below", false, x.end(-1));
        x.feed(0x6d61726b, 0x206d3b6d, 0x61726b20, 0x6e3b0000, 0);
        Check.due("one more than it has", false, x.end(21));
        Check.due("far more", false, x.end(MAX));
        Check.due("below", false, x.end(-1));
        Check.due("far below", false, x.end(MIN));
        Check.due("it stays", 20, x.count(8));
        Check.due("all that it has", true, x.end(20));
        Check.due("it stays", 20, x.count(8));
        Check.due("seven", true, x.end(7));
        Check.due("no more than these now", false, x.end(8));
        Check.due("mark m;", 1, x.city());
        x.feed(1, 2, 3, 4, 5);
        Check.due("none", true, x.end(0));
        Check.due("empty", 0, x.count(8));
    }

    private static void whatThereIs() {
        ofAThing();
        ofAPerson();
        lyingInAPlace();
        now();
        counts();
        carriedThingsAreWhereHeIs();
    }

    // 6: "Of a THING: 0 .. 3. NoSuchElementException: no such ones."
    private static void ofAThing() {
        NounFast x = Check.with(Check.fullCity());
        for (int t : new int[] {MIN, -1, 8, MAX}) {
            for (int what = 0; what < 4; what++) {
                int asked = what;
                Check.throwsNoSuch("thing " + t, () -> x.thing(t, asked));
            }
        }
        for (int what : new int[] {MIN, -1, 4, MAX}) {
            Check.throwsNoSuch("what " + what, () -> x.thing(0, what));
            Check.throwsNoSuch("what " + what, () -> x.thing(7, what));
        }
        Check.due("nobody carries the last", NONE, x.thing(7, 1));
        Check.due("no marks", 0, x.thing(7, 2));
        Check.due("never named", 0, x.thing(7, 3));
        // The least thing that a city of one has not.
        NounFast y = Check.with("place p;thing t p;");
        Check.due("thing 0", 0, y.thing(0, 0));
        Check.throwsNoSuch("thing 1", () -> y.thing(1, 0));
    }

    // 7: "Of a PERSON: 0 .. 4. NoSuchElementException: no such ones."
    private static void ofAPerson() {
        NounFast x = Check.with(Check.fullCity());
        for (int p : new int[] {MIN, -1, 6, MAX}) {
            for (int what = 0; what < 5; what++) {
                int asked = what;
                Check.throwsNoSuch("person " + p, () -> x.person(p, asked));
            }
        }
        for (int what : new int[] {MIN, -1, 5, MAX}) {
            Check.throwsNoSuch("what " + what, () -> x.person(0, what));
            Check.throwsNoSuch("what " + what, () -> x.person(5, what));
        }
        Check.due("the last one is not foreign", 0, x.person(5, 4));
        Check.due("carries nothing", 0, x.person(5, 3));
        // Each of eight things carried by one: all bits.
        StringBuilder city = new StringBuilder("place p;person a p 0;person b p 0 foreign;");
        for (int t = 0; t < 8; t++) {
            city.append("thing ").append((char) ('s' + t)).append(" p;");
        }
        NounFast y = Check.with(city.toString());
        for (int t = 0; t < 8; t++) {
            Check.due("name", 0, y.name(0, t));
        }
        Check.due("all things", 255, y.person(0, 3));
        Check.due("all things", 255, y.now(3));
        Check.due("none for the other", 0, y.person(1, 3));
        Check.due("none lies", 0, y.lies(0));
    }

    // 8: "THINGS that lie in a PLACE, as bits; NONE: no such one."
    private static void lyingInAPlace() {
        NounFast x = Check.with(Check.fullCity());
        for (int l = 0; l < 4; l++) {
            Check.due("two in each place", 1 << l | 1 << 4 + l, x.lies(l));
        }
        for (int l : new int[] {MIN, -1, 4, MAX}) {
            Check.due("place " + l, NONE, x.lies(l));
        }
        Check.due("nothing lies there", 0, Check.with("place p;").lies(0));
        Check.due("no place at all", NONE, new NounFast().lies(0));
    }

    // 9: "NONE for another what."; "in how many DAYS the next FAST is (0: it is now)"
    private static void now() {
        NounFast x = Check.with(Check.fullCity() + "fast 3;");
        for (int what : new int[] {MIN, -1, 7, MAX}) {
            Check.due("now(" + what + ")", NONE, x.now(what));
        }
        int[] till = {3, 2, 1, 0, 6, 5, 4, 3, 2, 1, 0, 6};
        for (int day = 0; day < till.length; day++) {
            Check.due("the day", day, x.now(0));
            Check.due("days till the next fast", till[day], x.now(6));
            Check.due("whether it is one", till[day] == 0 ? 1 : 0, x.now(1));
            x.days(1);
        }
        NounFast y = Check.with("place p;" + persons(6, 99));
        Check.due("as many coins as there can be", 594, y.now(2));
    }

    private static String persons(int n, int coins) {
        StringBuilder s = new StringBuilder();
        for (int i = 0; i < n; i++) {
            s.append("person h").append(Check.letter(i)).append(" p ").append(coins).append(';');
        }
        return s.toString();
    }

    // 43: "0 PLACES .. 8 bytes of the tape. NONE for another what."
    private static void counts() {
        NounFast x = Check.with(Check.fullCity() + "fine 20;mite 9;wage 9;fast 6;");
        int[] most = {4, 10, 8, 6, 20, 9, 9, 6, 0};
        for (int what = 0; what < most.length; what++) {
            Check.due("count(" + what + ")", most[what], x.count(what));
        }
        for (int what : new int[] {MIN, -1, 9, MAX}) {
            Check.due("count(" + what + ")", NONE, x.count(what));
        }
    }

    // "A THING lies in a PLACE, or is carried by a PERSON (and so where he is)."
    private static void carriedThingsAreWhereHeIs() {
        NounFast x = Check.with(Check.fullCity());
        Check.due("it is carried", 0, x.name(0, 0));
        for (int l = 1; l < 4; l++) {
            Check.due("he goes", 0, x.go(0, l));
            Check.due("it is where he is", l, x.thing(0, 0));
            Check.due("it lies nowhere", 0, x.lies(l) & 1);
        }
        Check.due("he puts it down", 0, x.put(0, 0));
        Check.due("he goes", 0, x.go(0, 0));
        Check.due("it stays", 3, x.thing(0, 0));
    }

    // "A DAY whose number modulo 7 is 'fast' is a FAST."
    private static void fasts() {
        for (int fast = 0; fast < 7; fast++) {
            NounFast x = Check.with("fast " + fast + ";");
            for (int day = 0; day < 22; day++) {
                Check.due("fast " + fast + ", day " + day, day % 7 == fast ? 1 : 0, x.now(1));
                x.days(1);
            }
        }
        // The last day is 400, and 400 modulo 7 is 1.
        NounFast y = Check.with("fast 1;");
        Check.passTo(y, 399);
        Check.due("399", 0, y.now(1));
        Check.due("399", 1, y.now(6));
        y.days(1);
        Check.due("400", 1, y.now(1));
        Check.due("400", 0, y.now(6));
    }

    // "To GO to a PLACE: why not: 1 he is there." 10: "NONE: no such ones."
    private static void going() {
        NounFast x = Check.with(Check.fullCity());
        for (int l = 0; l < 4; l++) {
            Check.due("there", l == 0 ? 1 : 0, x.go(0, l));
            Check.due("there now", 1, x.go(0, l));
        }
        Check.due("the last person", 0, x.go(5, 3));
        for (int p : new int[] {MIN, -1, 6, MAX}) {
            Check.due("no such person", NONE, x.go(p, 0));
        }
        for (int l : new int[] {MIN, -1, 4, MAX}) {
            Check.due("no such place", NONE, x.go(0, l));
        }
        Check.due("he is there", 3, x.person(0, 0));
    }

    private static void asking() {
        whyNotToAsk();
        theFirstThatFits();
        sayingsThatAreNone();
    }

    // "To ASK a PERSON by a SAYING: why not, the least: 1 they are alike, or not in one PLACE; 2 nothing .. FITS"
    private static void whyNotToAsk() {
        NounFast x = Check.with("place p;place q;mark m;mark n;thing t p;is t n;person a p 1;person b p 1;person c q 1;"
            + "knows a m;knows b m;knows c m;");
        Check.due("alike", 1, x.ask(0, 0, 2));
        Check.due("alike, and nothing fits", 1, x.ask(0, 0, 1));
        Check.due("not in one place", 1, x.ask(0, 2, 2));
        Check.due("not in one place, and nothing fits", 1, x.ask(0, 2, 1));
        Check.due("nothing fits", 2, x.ask(0, 1, 1));
        Check.due("nothing fits by both", 2, x.ask(0, 1, 3));
        Check.due("by a mark that he does not know", 0, x.ask(0, 1, 2));
        Check.due("nothing lies there", 2, x.ask(0, 1, 2));
        x.go(2, 0);
        x.put(0, 0);
        x.go(0, 1);
        Check.due("it lies elsewhere", 1, x.ask(0, 1, 2));
    }

    // "the first that does is carried by him who asks (a GUESS, if more do)"
    private static void theFirstThatFits() {
        StringBuilder city = new StringBuilder("place p;mark m;person a p 1;person b p 1;knows b m;");
        for (int t = 0; t < 8; t++) {
            city.append("thing ").append((char) ('s' + t)).append(" p;");
        }
        NounFast x = Check.with(city + "is t m;is u m;is z m;");
        int[] carried = {2, 6, 134};
        int[] guesses = {1, 2, 2};
        for (int i = 0; i < 3; i++) {
            Check.due("ask", 0, x.ask(0, 1, 1));
            Check.due("the first", carried[i], x.person(0, 3));
            Check.due("none for him who is asked", 0, x.person(1, 3));
            Check.due("a guess, if more do", guesses[i], x.now(4));
        }
        Check.due("none is left", 2, x.ask(0, 1, 1));
        Check.due("no guess", 2, x.now(4));
    }

    // 11: "NONE: no such ones, it has no MARK, or one that there is not."
    private static void sayingsThatAreNone() {
        NounFast x = Check.with(Check.fullCity());
        Check.due("no mark", NONE, x.ask(0, 4, 0));
        Check.due("an eleventh mark", NONE, x.ask(0, 4, 1024));
        Check.due("an eleventh mark, too", NONE, x.ask(0, 4, 1025));
        Check.due("the highest bit", NONE, x.ask(0, 4, MIN));
        Check.due("all bits", NONE, x.ask(0, 4, -1));
        for (int p : new int[] {MIN, -1, 6, MAX}) {
            Check.due("no such person", NONE, x.ask(p, 4, 1));
            Check.due("no such person", NONE, x.ask(0, p, 1));
        }
        Check.due("alike, but no mark", NONE, x.ask(0, 0, 0));
        Check.due("all ten marks", 0, x.ask(0, 4, 1023));
        Check.due("the tenth mark", 0, x.ask(4, 0, 512));
        NounFast y = Check.with("place p;thing t p;person a p 1;person b p 1;");
        Check.due("there are no marks", NONE, y.ask(0, 1, 1));
        Check.due("there are no marks", NONE, y.ask(0, 1, 0));
    }

    private static void naming() {
        whyNotToName();
        theFine();
        theLeastFineAndTheMost();
    }

    // "To NAME a THING: 1 it does not lie where he is; 2 it is a FAST, he is not foreign, and has less than 'fine'"
    private static void whyNotToName() {
        NounFast x = Check.with("place p;place q;thing t p;thing u q;thing v p;person a p 2;person b p 3;"
            + "person c p 2 foreign;fine 3;fast 0;");
        Check.due("elsewhere", 1, x.name(1, 1));
        Check.due("elsewhere, and he has less", 1, x.name(0, 1));
        Check.due("he has less", 2, x.name(0, 0));
        Check.due("foreign", 0, x.name(2, 0));
        Check.due("it is carried", 1, x.name(1, 0));
        Check.due("it is carried by himself", 1, x.name(2, 0));
        Check.due("it is carried, and he has less", 1, x.name(0, 0));
        Check.due("he has just as much", 0, x.name(1, 2));
        for (int p : new int[] {MIN, -1, 3, MAX}) {
            Check.due("no such person", NONE, x.name(p, 0));
        }
        for (int t : new int[] {MIN, -1, 3, MAX}) {
            Check.due("no such thing", NONE, x.name(0, t));
        }
    }

    // "he carries it; on a FAST, if he is not foreign, he has 'fine' less"
    private static void theFine() {
        NounFast x = Check.with("place p;thing t p;thing u p;thing v p;person a p 3;person b p 0 foreign;fine 3;wage 0;"
            + "fast 0;");
        Check.due("he names it", 0, x.name(0, 0));
        Check.due("he has nothing left", 0, x.person(0, 1));
        Check.due("one fine", 1, x.now(5));
        Check.due("foreign, without a coin", 0, x.name(1, 1));
        Check.due("no fine", 1, x.now(5));
        Check.due("no coins", 0, x.person(1, 1));
        Check.due("he has nothing", 2, x.name(0, 2));
        Check.due("not paid, not counted", 1, x.now(5));
        Check.due("not named", 0, x.thing(2, 3));
        x.days(1);
        Check.due("on another day", 0, x.name(0, 2));
        Check.due("no fine", 1, x.now(5));
        Check.due("named on any day", 1, x.thing(2, 3));
    }

    // "'fine' N (1 to 20"
    private static void theLeastFineAndTheMost() {
        String city = "place p;thing t p;person a p %d;fast 0;fine %d;";
        for (int fine : new int[] {1, 20}) {
            NounFast x = Check.with(String.format(city, fine - 1, fine));
            Check.due("one less than the fine", 2, x.name(0, 0));
            NounFast y = Check.with(String.format(city, fine, fine));
            Check.due("just the fine", 0, y.name(0, 0));
            Check.due("nothing is left", 0, y.person(0, 1));
            NounFast z = Check.with(String.format(city, 99, fine));
            Check.due("all coins", 0, z.name(0, 0));
            Check.due("the fine less", 99 - fine, z.person(0, 1));
        }
    }

    private static void pointing() {
        whyNotToPoint();
        theMite();
    }

    // "To POINT at it: 1 likewise; 2 it is a FAST, and he has less than 'mite'"
    private static void whyNotToPoint() {
        NounFast x = Check.with("place p;place q;thing t p;thing u q;person a p 1;person b p 2;person c p 1 foreign;"
            + "mite 2;wage 0;fast 0;");
        Check.due("elsewhere", 1, x.point(1, 1));
        Check.due("elsewhere, and he has less", 1, x.point(0, 1));
        Check.due("he has less", 2, x.point(0, 0));
        Check.due("who is foreign pays, too", 2, x.point(2, 0));
        Check.due("just as much", 0, x.point(1, 0));
        Check.due("it is carried", 1, x.point(1, 0));
        Check.due("it is carried, and he has less", 1, x.point(0, 0));
        for (int p : new int[] {MIN, -1, 3, MAX}) {
            Check.due("no such person", NONE, x.point(p, 0));
        }
        for (int t : new int[] {MIN, -1, 2, MAX}) {
            Check.due("no such thing", NONE, x.point(0, t));
        }
        x.put(1, 0);
        x.days(1);
        Check.due("no fast, no mite", 0, x.point(0, 0));
        Check.due("his coin", 1, x.person(0, 1));
    }

    // "he carries it; on a FAST he has 'mite' less"; "'mite' N (0 to 9"
    private static void theMite() {
        for (int mite = 0; mite <= 9; mite++) {
            NounFast x = Check.with("place p;thing t p;thing u p;person a p " + mite + ";person b p 9 foreign;fast 0;mite "
                + mite + ";");
            Check.due("he points at it", 0, x.point(0, 0));
            Check.due("he carries it", 0, x.thing(0, 1));
            Check.due("nothing is left", 0, x.person(0, 1));
            Check.due("foreign", 0, x.point(1, 1));
            Check.due("the mite less", 9 - mite, x.person(1, 1));
            Check.due("no fine", 0, x.now(5));
            Check.due("not named", 0, x.thing(0, 3));
            x.put(1, 1);
            Check.due("with nothing", mite == 0 ? 0 : 2, x.point(0, 1));
        }
    }

    // "To PUT it down: 1 he does not carry it: it lies where he is." 14: "NONE: no such ones."
    private static void putting() {
        NounFast x = Check.with(Check.fullCity());
        Check.due("it lies", 1, x.put(0, 0));
        Check.due("he names it", 0, x.name(0, 0));
        Check.due("another one", 1, x.put(4, 0));
        Check.due("another thing", 1, x.put(0, 4));
        for (int p : new int[] {MIN, -1, 6, MAX}) {
            Check.due("no such person", NONE, x.put(p, 0));
        }
        for (int t : new int[] {MIN, -1, 8, MAX}) {
            Check.due("no such thing", NONE, x.put(0, t));
        }
        Check.due("still carried", 0, x.thing(0, 1));
        Check.due("he goes", 0, x.go(0, 3));
        Check.due("he puts it down", 0, x.put(0, 0));
        Check.due("it lies where he is", 1 | 1 << 3 | 1 << 7, x.lies(3));
        Check.due("no more", 1, x.put(0, 0));
    }

    // "To LEARN from a PERSON: 1 they are alike, or not in one PLACE; 2 he knows nothing that he does not"
    private static void learning() {
        NounFast x = Check.with(Check.fullCity() + "knows ha ma;knows he ma;knows hb mb;");
        Check.due("alike", 1, x.learn(0, 0));
        Check.due("not in one place, though there is a mark", 1, x.learn(0, 1));
        Check.due("not in one place, and nothing to learn", 1, x.learn(1, 2));
        Check.due("nothing that he does not know", 2, x.learn(0, 4));
        Check.due("he knows no mark", 2, x.learn(1, 5));
        for (int p : new int[] {MIN, -1, 6, MAX}) {
            Check.due("no such person", NONE, x.learn(p, 4));
            Check.due("no such person", NONE, x.learn(0, p));
        }
        NounFast y = Check.with("place c;" + marks(10) + "person a c 1;person b c 1;" + known("b", 10) + "knows a k;");
        int known = 1;
        for (int m = 1; m < 10; m++) {
            Check.due("he learns", 0, y.learn(0, 1));
            known |= 1 << m;
            Check.due("the first of those that he did not know", known, y.person(0, 2));
        }
        Check.due("he knows all ten", 2, y.learn(0, 1));
        Check.due("the other one knows what he knew", 1023, y.person(1, 2));
    }

    private static String marks(int n) {
        StringBuilder s = new StringBuilder();
        for (int m = 0; m < n; m++) {
            s.append("mark ").append((char) ('k' + m)).append(';');
        }
        return s.toString();
    }

    private static String known(String who, int n) {
        StringBuilder s = new StringBuilder();
        for (int m = 0; m < n; m++) {
            s.append("knows ").append(who).append(' ').append((char) ('k' + m)).append(';');
        }
        return s.toString();
    }

    private static void days() {
        nAsTold();
        wages();
        theEndOfDays();
        actsOnTheLastDay();
    }

    // 16: "n (1 to 60) DAYS go by: how many did; NONE: not as told."
    private static void nAsTold() {
        NounFast x = Check.with("place p;person a p 1;");
        for (int n : new int[] {MIN, -1, 0, 61, MAX}) {
            Check.due("days(" + n + ")", NONE, x.days(n));
        }
        Check.due("none went by", 0, x.now(0));
        Check.due("no wage", 1, x.person(0, 1));
        Check.due("one", 1, x.days(1));
        Check.due("sixty", 60, x.days(60));
        Check.due("the day", 61, x.now(0));
    }

    // "if it is no FAST, each PERSON has 'wage' more (99 at most)"
    private static void wages() {
        String city = "place p;person a p 98;person b p 97;person c p 99;person d p 0 foreign;fast 1;wage ";
        NounFast x = Check.with(city + "2;");
        x.days(1);
        int[] first = {99, 99, 99, 2};
        for (int p = 0; p < 4; p++) {
            Check.due("99 at most", first[p], x.person(p, 1));
        }
        x.days(1);
        Check.due("a fast brings none", 2, x.person(3, 1));
        x.days(1);
        Check.due("the day behind it does", 4, x.person(3, 1));
        NounFast y = Check.with(city + "0;");
        y.days(60);
        Check.due("no wage", 98, y.person(0, 1));
        Check.due("no wage", 0, y.person(3, 1));
        NounFast z = Check.with(city + "9;");
        for (int i = 0; i < 11; i++) {
            z.days(1);
        }
        // Days 1 and 8 are fasts.
        Check.due("nine wages of nine", 81, z.person(3, 1));
        z.days(2);
        Check.due("eleven wages of nine", 99, z.person(3, 1));
        z.days(1);
        Check.due("no more", 99, z.person(3, 1));
        Check.due("all have as much", 396, z.now(2));
    }

    // "A DAY (0 to 399; 400: all are over)"
    private static void theEndOfDays() {
        NounFast x = Check.with("place p;person a p 0;wage 1;fast 0;");
        Check.passTo(x, 399);
        Check.due("the last one goes", 1, x.days(60));
        Check.due("day 400", 400, x.now(0));
        Check.due("none goes", 0, x.days(1));
        Check.due("none goes", 0, x.days(60));
        Check.due("none is drawn", 0, x.drawn(60, 1));
        Check.due("day 400", 400, x.now(0));
        Check.due("not as told, even then", NONE, x.days(61));
        Check.due("as long as there were days", 99, x.person(0, 1));
        NounFast y = Check.with("place p;person a p 0;wage 1;fast 0;");
        Check.passTo(y, 341);
        Check.due("59 are left", 59, y.days(60));
        NounFast z = Check.with("place p;person a p 0;wage 1;fast 0;");
        Check.passTo(z, 340);
        Check.due("60 are left", 60, z.days(60));
        Check.due("day 400", 400, z.now(0));
    }

    // "400: all are over": of the days; what the document says of acts names no day.
    private static void actsOnTheLastDay() {
        NounFast x = Check.with("place p;place q;mark m;thing t p;thing u p;is t m;person a p 99;person b p 99;"
            + "knows b m;fast 1;");
        Check.passTo(x, 400);
        Check.due("a fast", 1, x.now(1));
        Check.due("name", 0, x.name(0, 0));
        Check.due("the fine", 96, x.person(0, 1));
        Check.due("point", 0, x.point(1, 1));
        Check.due("the mite", 98, x.person(1, 1));
        Check.due("learn", 0, x.learn(0, 1));
        Check.due("put", 0, x.put(0, 0));
        Check.due("ask", 0, x.ask(0, 1, 1));
        Check.due("go", 0, x.go(0, 1));
    }

    private static void undoing() {
        noneIs();
        eightAreKept();
        eachKindOfAct();
        whatIsNoAct();
    }

    // 17: "NONE: none is."
    private static void noneIs() {
        NounFast x = new NounFast();
        Check.due("of a new one", NONE, x.undo());
        x.days(1);
        Check.due("one", 0, x.undo());
        Check.due("no more", NONE, x.undo());
        Check.due("and no more", NONE, x.undo());
        Check.due("day", 0, x.now(0));
    }

    // 17: "how many more can be (8 at most are kept)"
    private static void eightAreKept() {
        for (int acts : new int[] {7, 8, 9, 10, 17, 18, 19, 40}) {
            NounFast x = new NounFast();
            for (int i = 0; i < acts; i++) {
                Check.due("a day", 1, x.days(1));
            }
            int kept = Math.min(8, acts);
            for (int i = kept - 1; i >= 0; i--) {
                Check.due("of " + acts + " acts", i, x.undo());
                Check.due("the day", acts - kept + i, x.now(0));
            }
            Check.due("no more of " + acts, NONE, x.undo());
            Check.due("the day stays", acts - kept, x.now(0));
        }
        // What was undone makes room.
        NounFast y = new NounFast();
        for (int i = 0; i < 10; i++) {
            y.days(1);
        }
        Check.due("undone", 7, y.undo());
        Check.due("undone", 6, y.undo());
        y.days(5);
        Check.due("seven are kept now", 6, y.undo());
        Check.due("the day", 8, y.now(0));
        for (int i = 5; i >= 0; i--) {
            Check.due("undone", i, y.undo());
        }
        Check.due("the day", 2, y.now(0));
        Check.due("no more", NONE, y.undo());
    }

    // 17: "The latest of go(), ask(), name(), point(), put(), learn() that was done, days() above 0, drawn() above 0,
    // a BOOK that was lived is undone"
    private static void eachKindOfAct() {
        NounFast x = Check.with("place p;place q;mark m;thing t p;thing u p;thing v p;person a p 9;person b p 9;knows b m;"
            + "fast 0;wage 1;");
        Check.due("nothing fits", 2, x.ask(0, 1, 1));
        Check.due("nothing was done", NONE, x.undo());
        Check.due("learn", 0, x.learn(0, 1));
        Check.due("name", 0, x.name(0, 0));
        Check.due("point", 0, x.point(0, 1));
        Check.due("put", 0, x.put(0, 1));
        Check.due("go", 0, x.go(0, 1));
        Check.due("days", 2, x.days(2));
        Check.due("drawn", 3, x.drawn(3, 7));
        Check.due("book", NONE, Check.book(x, 1, "day 4;"));
        Check.due("the book", 7, x.undo());
        Check.due("day 5", 5, x.now(0));
        Check.due("drawn", 6, x.undo());
        Check.due("day 2", 2, x.now(0));
        Check.due("days", 5, x.undo());
        Check.due("day 0", 0, x.now(0));
        Check.due("coins", 5 + 9, x.now(2));
        Check.due("he is in q", 1, x.person(0, 0));
        Check.due("went", 4, x.undo());
        Check.due("he is in p", 0, x.person(0, 0));
        Check.due("u lies", NONE, x.thing(1, 1));
        Check.due("put", 3, x.undo());
        Check.due("u is carried", 0, x.thing(1, 1));
        Check.due("pointed", 2, x.undo());
        Check.due("u lies", NONE, x.thing(1, 1));
        Check.due("the mite is his", 6, x.person(0, 1));
        Check.due("named", 1, x.undo());
        Check.due("t lies", NONE, x.thing(0, 1));
        Check.due("never named", 0, x.thing(0, 3));
        Check.due("no fine", 0, x.now(5));
        Check.due("the fine is his", 9, x.person(0, 1));
        Check.due("learnt", 0, x.undo());
        Check.due("he knows nothing", 0, x.person(0, 2));
        Check.due("no more", NONE, x.undo());
        NounFast y = Check.with("place p;mark m;thing t p;thing u p;person a p 9;person b p 9;");
        Check.due("ask", 0, y.ask(0, 1, 1));
        Check.due("a guess", 1, y.now(4));
        Check.due("asked", 0, y.undo());
        Check.due("no guess", 0, y.now(4));
        Check.due("t lies", 3, y.lies(0));
    }

    // 17: what is no act, and what was not done, can't be undone and takes no room.
    private static void whatIsNoAct() {
        NounFast x = Check.with("place p;mark m;thing t p;person a p 9;person b p 9;");
        Check.due("a day", 1, x.days(1));
        Check.due("he is there", 1, x.go(0, 0));
        Check.due("alike", 1, x.ask(0, 0, 1));
        Check.due("not carried", 1, x.put(0, 0));
        Check.due("alike", 1, x.learn(0, 0));
        Check.due("no such", NONE, x.name(0, 1));
        Check.due("no such", NONE, x.point(2, 0));
        Check.due("not as told", NONE, x.days(61));
        Check.due("not as told", NONE, x.drawn(61, 1));
        Check.due("a book judged", NONE, Check.book(x, 0, "day 1;a names t;"));
        Check.due("a book with a fault", -2 - 6, Check.book(x, 1, "day 1;x"));
        Check.due("another lives", -1000, x.book(2));
        Check.due("a sentence", 1, Check.sentence(x, "lone"));
        Check.due("say", 0, x.say(0, 0));
        x.odds(0, 30, 1);
        Check.due("image", true, x.image(0));
        Check.due("a city with a fault", -1, Check.city(x, "x"));
        Check.due("the day alone", 0, x.undo());
        Check.due("day 0", 0, x.now(0));
        Check.passTo(x, 400);
        Check.due("no day goes", 0, x.days(1));
        Check.due("no day is drawn", 0, x.drawn(1, 1));
        Check.due("seven were passed", 6, x.undo());
        Check.due("the day", 360, x.now(0));
    }
}
