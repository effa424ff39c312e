/** Promises 41 (image) and 42 (restore). */
public final class ImageTest {
    private static final int NONE = Check.NONE;
    private static final String CITY = "place p;place q;mark m;mark n;thing t p;thing u p;is t m;is u n;"
        + "person a p 5;person b p 9;knows b m;fast 1;";

    public static void main(String[] args) {
        places();
        allIsKept();
        twoImages();
        whatStays();
        Check.finish();
    }

    private static void places() {
        NounFast x = Check.with(CITY);
        Check.due("image(-1)", false, x.image(-1));
        Check.due("image(2)", false, x.image(2));
        Check.due("restore(-1)", false, x.restore(-1));
        Check.due("restore(2)", false, x.restore(2));
        Check.due("nothing is kept", false, x.restore(0));
        Check.due("nothing is kept", false, x.restore(1));
        Check.due("image(1)", true, x.image(1));
        Check.due("nothing is kept", false, x.restore(0));
        Check.due("restore(1)", true, x.restore(1));
        Check.due("once more", true, x.restore(1));
    }

    private static void allIsKept() {
        NounFast x = Check.with(CITY);
        x.ask(0, 1, 2);
        x.days(1);
        x.name(1, 1);
        x.learn(0, 1);
        x.go(0, 1);
        Check.due("sentence", 1, Check.sentence(x, "carried"));
        Check.due("image", true, x.image(0));
        int[] want = new int[7];
        for (int i = 0; i < 7; i++) {
            want[i] = x.now(i);
        }
        Check.due("a guess", 1, want[4]);
        Check.due("a fine", 1, want[5]);
        Check.city(x, "place z;place y;place x;thing s z;person c z 1 foreign;fine 9;mite 8;wage 7;fast 6;");
        Check.due("another sentence", 2, Check.sentence(x, "not carried"));
        x.days(3);
        Check.due("restore", true, x.restore(0));
        for (int i = 0; i < 7; i++) {
            Check.due("now(" + i + ")", want[i], x.now(i));
        }
        int[] counts = {2, 2, 2, 2, 3, 1, 2, 1};
        for (int i = 0; i < 8; i++) {
            Check.due("count(" + i + ")", counts[i], x.count(i));
        }
        Check.due("where a is", 1, x.person(0, 0));
        Check.due("what a knows", 1, x.person(0, 2));
        Check.due("what a carries", 1, x.person(0, 3));
        Check.due("a is not foreign", 0, x.person(0, 4));
        Check.due("u was named", 1, x.thing(1, 3));
        Check.due("the sentence", 2, x.said(NONE));
        Check.due("nothing can be undone", NONE, x.undo());
        Check.due("the names", NONE, Check.book(x, 0, "a puts t;b puts u;"));
    }

    private static void twoImages() {
        NounFast x = Check.with(CITY);
        x.image(0);
        x.days(1);
        Check.due("sentence", 1, Check.sentence(x, "lone"));
        x.image(1);
        x.days(1);
        Check.due("restore(0)", true, x.restore(0));
        Check.due("day 0", 0, x.now(0));
        Check.due("no sentence", NONE, x.said(NONE));
        x.name(0, 0);
        Check.due("restore(1)", true, x.restore(1));
        Check.due("day 1", 1, x.now(0));
        Check.due("nothing carried", 0, x.now(3));
        Check.due("a sentence", 2, x.said(NONE));
        x.name(1, 0);
        Check.due("restore(1) once more", true, x.restore(1));
        Check.due("the image did not change", 0, x.now(3));
        x.days(4);
        x.image(1);
        x.restore(0);
        x.restore(1);
        Check.due("the later image", 5, x.now(0));
    }

    private static void whatStays() {
        NounFast x = Check.with(CITY);
        x.image(0);
        x.days(1);
        Check.due("an image does not hinder undoing", 0, x.undo());
        x.say(0, 1);
        x.cover(0);
        Check.due("spoken", 2, Check.spoken(x, 1, 1, 0));
        x.rest(0);
        x.phrase(0);
        Check.due("book", 0, Check.book(x, 1, "a puts t;"));
        Check.due("a fault", -1, Check.city(x, "x"));
        x.feed(1, 2, 3, 4, 5);
        Check.due("restore", true, x.restore(0));
        Check.due("the tape", 20, x.count(8));
        Check.due("the fault", 1, x.fault());
        Check.due("the saying", 1, x.saying());
        Check.due("the cover", 3, x.covering());
        Check.due("surely", 1, x.surely());
        Check.due("show", 0, x.show());
        Check.due("rested", 1, x.rested(1));
        Check.same("phrase", "t", Check.phrase(x));
        Check.due("told", 41, x.told(0));
        Check.due("nothing can be undone", NONE, x.undo());
    }
}
