import java.util.NoSuchElementException;
import java.util.function.ToIntFunction;

/**
 * A call that is refused (NONE, -1000, false, why not, an exception) changes nothing that the document does not say,
 * and a call that only asks changes nothing at all: an object that had such a call answers all others as its double does.
 */
public final class RefusedCallsTest {
    private static final int NONE = Check.NONE;
    private static final int MIN = Integer.MIN_VALUE;
    private static final int MAX = Integer.MAX_VALUE;
    // What a call answers that throws, here alone.
    private static final int THROWS = -77777;
    private static final String CITY = "place p;place q;mark m;mark n;mark o;thing t p;thing u p;thing v q;thing w p;"
        + "thing x q;is t m;is u n;is v m;is v n;is w o;person a p 1;person b p 9;person c q 9;knows a m;knows b n;"
        + "knows c m;knows c n;knows c o;fine 3;mite 2;fast 1;wage 0;";
    private static final String TAPE = "day 2;";

    public static void main(String[] args) {
        theTape();
        whatThereIs();
        acts();
        days();
        minds();
        tellings();
        images();
        asking();
        textsWithFaults();
        notAsTold();
        onTheLastDay();
        nothingToUndo();
        eightAreKept();
        noPersons();
        Check.finish();
    }

    /** All that can be told has been told, four acts can be undone, an image is kept, and there is a tape. */
    private static NounFast setUp(String tape) {
        NounFast x = Check.with(CITY);
        Check.due("say", 1, x.say(0, 0));
        Check.due("cover", 3, x.cover(0));
        Check.due("cant", 2, x.cant(0, 1, 0, 1));
        Check.due("spoken", 6, Check.spoken(x, 2, 0, 0));
        Check.due("rest", 2, x.rest(0));
        Check.due("phrase", 1, x.phrase(3));
        Check.due("book", 1, Check.book(x, 0, "day 3;a goes p;"));
        Check.due("sentence", 1, Check.sentence(x, "lone"));
        Check.due("image", true, x.image(0));
        Check.due("learn", 0, x.learn(0, 1));
        Check.due("day", 1, x.days(1));
        Check.due("name", 0, x.name(1, 3));
        Check.due("ask", 0, x.ask(0, 1, 2));
        Check.due("a fault", -1 - 5, Check.city(x, "fine 0;"));
        Check.text(x, tape);
        return x;
    }

    private static String scene(NounFast x) {
        StringBuilder s = new StringBuilder();
        for (int what = 0; what < 9; what++) {
            s.append(" count ").append(x.count(what));
        }
        for (int what = 0; what < 7; what++) {
            s.append(" now ").append(x.now(what));
        }
        for (int l = 0; l < x.count(0); l++) {
            s.append(" lies ").append(x.lies(l));
        }
        for (int t = 0; t < x.count(2); t++) {
            for (int what = 0; what < 4; what++) {
                s.append(" thing ").append(x.thing(t, what));
            }
        }
        for (int p = 0; p < x.count(3); p++) {
            for (int what = 0; what < 5; what++) {
                s.append(" person ").append(x.person(p, what));
            }
        }
        int many = x.said(NONE);
        s.append(" said ").append(many);
        for (int k = 0; k < many; k++) {
            s.append(" said ").append(x.said(k));
        }
        return s.toString();
    }

    private static String told(NounFast x) {
        StringBuilder s = new StringBuilder();
        s.append(" saying ").append(x.saying()).append(" covering ").append(x.covering());
        s.append(" surely ").append(x.surely()).append(" show ").append(x.show()).append(" canting ").append(x.canting());
        for (int t = 0; t < 5; t++) {
            s.append(" rested ").append(x.rested(t));
        }
        for (int what = 0; what < 4; what++) {
            s.append(" told ").append(x.told(what));
        }
        return s.append(" phrase ").append(Check.phrase(x)).toString();
    }

    private static String briefly(NounFast x) {
        StringBuilder s = new StringBuilder();
        for (int what = 0; what < 6; what++) {
            s.append(" now ").append(x.now(what));
        }
        for (int p = 0; p < x.count(3); p++) {
            s.append(" person ").append(x.person(p, 0)).append(' ').append(x.person(p, 1)).append(' ').append(x.person(p, 2));
        }
        return s.toString();
    }

    /** All that can be seen of an object; it is of no use behind that. */
    private static String all(NounFast x) {
        StringBuilder s = new StringBuilder(scene(x)).append(told(x));
        s.append(" book ").append(x.book(0)).append(" fault ").append(x.fault());
        for (int left = x.undo(); left != NONE; left = x.undo()) {
            s.append(" undo ").append(left).append(briefly(x));
        }
        s.append(" restore ").append(x.restore(1)).append(x.restore(0)).append(scene(x));
        return s.append(" undo ").append(x.undo()).toString();
    }

    private static int answer(NounFast x, ToIntFunction<NounFast> call) {
        try {
            return call.applyAsInt(x);
        } catch (NoSuchElementException thrown) {
            return THROWS;
        }
    }

    private static int truth(boolean b) {
        return b ? 1 : 0;
    }

    /** A call with its answer that changes nothing. */
    private static void same(String what, int want, ToIntFunction<NounFast> call) {
        NounFast x = setUp(TAPE);
        NounFast twin = setUp(TAPE);
        Check.due(what, want, answer(x, call));
        Check.due(what + ", the fault", twin.fault(), x.fault());
        Check.same(what + ", behind it", all(twin), all(x));
    }

    /** A text that is refused: the tape is empty then, the fault is told, and all else stays. */
    private static void sameButFault(String tape, int want, int fault, ToIntFunction<NounFast> call) {
        NounFast x = setUp(tape);
        NounFast twin = setUp(tape);
        twin.end(0);
        Check.due(tape, want, answer(x, call));
        Check.due(tape + ", the tape", 0, x.count(8));
        Check.due(tape + ", the fault", fault, x.fault());
        Check.same(tape + ", behind it", all(twin), all(x));
    }

    private static void theTape() {
        same("end(-1)", 0, x -> truth(x.end(-1)));
        same("end(MIN)", 0, x -> truth(x.end(MIN)));
        same("end(7)", 0, x -> truth(x.end(7)));
        same("end(MAX)", 0, x -> truth(x.end(MAX)));
        same("end(6)", 1, x -> truth(x.end(6)));
        for (int length : new int[] {921, 940}) {
            String tape = "day 2;" + " ".repeat(length - 6);
            NounFast x = setUp(tape);
            NounFast twin = setUp(tape);
            Check.due("feed", NONE, x.feed(1, 2, 3, 4, 5));
            Check.same("feed to " + length, all(twin), all(x));
        }
    }

    private static void whatThereIs() {
        for (int n : new int[] {MIN, -1, 9, MAX}) {
            same("thing", THROWS, x -> x.thing(n, 0));
            same("thing's", THROWS, x -> x.thing(0, n));
            same("person", THROWS, x -> x.person(n, 0));
            same("person's", THROWS, x -> x.person(0, n));
            same("lies", NONE, x -> x.lies(n));
            same("now", NONE, x -> x.now(n));
            same("count", NONE, x -> x.count(n));
        }
    }

    private static void acts() {
        for (int n : new int[] {MIN, -1, 5, MAX}) {
            same("go", NONE, x -> x.go(n, 0));
            same("go", NONE, x -> x.go(0, n));
            same("ask", NONE, x -> x.ask(n, 1, 1));
            same("ask", NONE, x -> x.ask(0, n, 1));
            same("name", NONE, x -> x.name(n, 0));
            same("name", NONE, x -> x.name(0, n));
            same("point", NONE, x -> x.point(n, 0));
            same("point", NONE, x -> x.point(0, n));
            same("put", NONE, x -> x.put(n, 1));
            same("put", NONE, x -> x.put(0, n));
            same("learn", NONE, x -> x.learn(n, 0));
            same("learn", NONE, x -> x.learn(1, n));
        }
        for (int saying : new int[] {0, 8, 9, -1, MIN}) {
            same("ask by " + saying, NONE, x -> x.ask(0, 1, saying));
        }
        same("go: he is there", 1, x -> x.go(0, 0));
        same("ask: alike", 1, x -> x.ask(0, 0, 1));
        same("ask: elsewhere", 1, x -> x.ask(0, 2, 1));
        same("ask: nothing fits", 2, x -> x.ask(0, 1, 2));
        same("name: elsewhere", 1, x -> x.name(0, 2));
        same("name: carried", 1, x -> x.name(0, 1));
        same("name: carried by another", 1, x -> x.name(0, 3));
        same("name: less than the fine", 2, x -> x.name(0, 0));
        same("point: elsewhere", 1, x -> x.point(0, 2));
        same("point: carried", 1, x -> x.point(0, 1));
        same("point: less than the mite", 2, x -> x.point(0, 0));
        same("put: it lies", 1, x -> x.put(0, 0));
        same("put: carried by another", 1, x -> x.put(0, 3));
        same("learn: alike", 1, x -> x.learn(0, 0));
        same("learn: elsewhere", 1, x -> x.learn(0, 2));
        same("learn: nothing new", 2, x -> x.learn(0, 1));
    }

    private static void days() {
        for (int n : new int[] {MIN, -1, 0, 61, MAX}) {
            same("days", NONE, x -> x.days(n));
            same("drawn", NONE, x -> x.drawn(n, 1));
        }
        for (int n : new int[] {MIN, -1, 0, 31, MAX}) {
            same("odds", NONE, x -> x.odds(0, n, 1));
        }
        same("odds of no thing", NONE, x -> x.odds(5, 1, 1));
        same("odds of no thing", NONE, x -> x.odds(-1, 1, 1));
    }

    private static void minds() {
        for (int n : new int[] {MIN, -1, 8, MAX}) {
            same("fits", NONE, x -> x.fits(n, 0, 0));
            same("fits", NONE, x -> x.fits(0, n, 0));
            same("fits", NONE, x -> x.fits(0, 0, n));
            same("say", NONE, x -> x.say(n, 0));
            same("say", NONE, x -> x.say(0, n));
            same("twin", NONE, x -> x.twin(n, 0));
            same("twin", NONE, x -> x.twin(0, n));
            same("slip", THROWS, x -> x.slip(n, 0, 0));
            same("slip", THROWS, x -> x.slip(0, n, 0));
            same("slip", THROWS, x -> x.slip(0, 0, n));
            same("cover", NONE, x -> x.cover(n));
            same("cant", NONE, x -> x.cant(n, 1, 2, 4));
            same("cant", NONE, x -> x.cant(0, n, 2, 4));
            same("cant", NONE, x -> x.cant(0, 1, n, 4));
            same("cant", NONE, x -> x.cant(0, 1, 2, n));
            same("rest", NONE, x -> x.rest(n));
            same("rested", NONE, x -> x.rested(n));
            same("news", NONE, x -> x.news(n));
            same("phrase", NONE, x -> x.phrase(n));
            same("byteAt", NONE, x -> x.byteAt(n));
        }
        same("say: by none", NONE, x -> x.say(4, 2));
        same("say: carried", NONE, x -> x.say(1, 0));
        same("twin: none", NONE, x -> x.twin(2, 0));
        same("twin: carried", NONE, x -> x.twin(1, 0));
        same("slip: no marks", THROWS, x -> x.slip(4, 2, 0));
        same("slip: carried", THROWS, x -> x.slip(1, 0, 1));
        same("cover: not by all", NONE, x -> x.cover(2));
        same("cant: by none", NONE, x -> x.cant(2, 1, 2, 4));
        same("cant: one thing", NONE, x -> x.cant(0, 1, 2, 2));
        same("cant: one person", NONE, x -> x.cant(2, 2, 2, 4));
        same("cant: in two places", NONE, x -> x.cant(0, 1, 0, 2));
        same("cant: carried", NONE, x -> x.cant(0, 1, 0, 1));
        same("rested: it did not lie there", NONE, x -> x.rested(2));
    }

    private static void tellings() {
        for (int n : new int[] {MIN, -1, 2, 3, MAX}) {
            same("another lives", -1000, x -> x.book(n));
        }
        for (int n : new int[] {MIN, -1, 4, MAX}) {
            same("told", NONE, x -> x.told(n));
        }
        for (int n : new int[] {MIN, -2, 2, MAX}) {
            same("said", NONE, x -> x.said(n));
        }
    }

    private static void images() {
        for (int n : new int[] {MIN, -1, 2, MAX}) {
            same("image", 0, x -> truth(x.image(n)));
            same("restore", 0, x -> truth(x.restore(n)));
        }
        same("restore: nothing is kept", 0, x -> truth(x.restore(1)));
    }

    private static void asking() {
        same("fits", 1, x -> x.fits(0, 0, 1));
        same("twin", 2, x -> x.twin(4, 2));
        same("slip", 0, x -> x.slip(0, 0, 0));
        same("news", 1, x -> x.news(0));
        same("count", 6, x -> x.count(8));
        same("said", 2, x -> x.said(NONE));
        same("odds", 0, x -> Math.min(0, x.odds(0, 30, 1)));
    }

    private static void textsWithFaults() {
        String[] cities = {"place p", "place p;fine 21;", "place p;place p;", "place a;place b;place c;place d;place e;"};
        int[] cityPlaces = {7, 13, 14, 32};
        String[] books = {"day 1", "day 1;day 61;", "day 1;x goes p;", "day 1;".repeat(41)};
        int[] bookPlaces = {5, 10, 6, 240};
        for (int i = 0; i < 4; i++) {
            sameButFault(cities[i], -1 - cityPlaces[i], i + 1, x -> x.city());
            sameButFault(books[i], -2 - bookPlaces[i], i + 1, x -> x.book(0));
            sameButFault(books[i], -2 - bookPlaces[i], i + 1, x -> x.book(1));
        }
        sameButFault("lone and", -1 - 8, 1, x -> x.sentence());
        sameButFault("has x", -1 - 4, 3, x -> x.sentence());
        sameButFault("not not not not not not not not lone", -1 - 32, 4, x -> x.sentence());
        sameButFault("", -1, 1, x -> x.sentence());
        sameButFault(" ".repeat(940), -1 - 900, 1, x -> x.city());
        sameButFault(" ".repeat(940), -2 - 400, 1, x -> x.book(1));
        sameButFault(" ".repeat(940), -1 - 200, 1, x -> x.sentence());
    }

    private static void notAsTold() {
        // The fault of the latest city() stays as it was: 2.
        String[] tapes = {"", "\0", "\0\0", "\3\0\1", "\0\5\1", "\0\0\2", "\0\0\1\0", "\0" + "\0\1".repeat(9)};
        for (String tape : tapes) {
            sameButFault(tape, NONE, 2, x -> x.spoken());
        }
        sameButFault("\0\0\1\0\0", 0, 2, x -> x.spoken());
    }

    private static void onTheLastDay() {
        NounFast x = Check.with(CITY);
        NounFast twin = Check.with(CITY);
        Check.passTo(x, 400);
        Check.passTo(twin, 400);
        Check.due("days", 0, x.days(1));
        Check.due("days", 0, x.days(60));
        Check.due("drawn", 0, x.drawn(1, 1));
        Check.due("drawn", 0, x.drawn(60, 1));
        Check.same("on the last day", all(twin), all(x));
    }

    private static void nothingToUndo() {
        NounFast x = Check.with(CITY);
        Check.due("undo", NONE, x.undo());
        Check.due("undo", NONE, x.undo());
        Check.same("nothing to undo", all(Check.with(CITY)), all(x));
        NounFast y = setUp(TAPE);
        NounFast twin = setUp(TAPE);
        for (int i = 3; i >= NONE; i--) {
            Check.due("undo", i, y.undo());
        }
        for (int i = 3; i >= 0; i--) {
            Check.due("undo", i, twin.undo());
        }
        Check.same("all undone, and once more", all(twin), all(y));
    }

    private static void eightAreKept() {
        NounFast x = setUp(TAPE);
        NounFast twin = setUp(TAPE);
        for (int i = 0; i < 6; i++) {
            Check.due("a day", 1, x.days(1));
            Check.due("a day", 1, twin.days(1));
        }
        Check.due("go", 1, x.go(0, 0));
        Check.due("ask", 1, x.ask(0, 0, 1));
        Check.due("name", 1, x.name(0, 1));
        Check.due("point", 1, x.point(0, 1));
        Check.due("put", 1, x.put(0, 0));
        Check.due("learn", 2, x.learn(0, 1));
        Check.due("days", NONE, x.days(0));
        Check.due("drawn", NONE, x.drawn(0, 1));
        // The oldest of the eight is still there.
        Check.same("eight are kept", all(twin), all(x));
    }

    private static void noPersons() {
        String city = "place p;mark m;thing t p;";
        NounFast x = Check.with(city);
        Check.due("drawn", NONE, x.drawn(1, 1));
        Check.due("odds", NONE, x.odds(0, 1, 1));
        Check.same("no persons", all(Check.with(city)), all(x));
    }
}
