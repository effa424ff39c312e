/** Promises 18 (fits), 19 (say), 20 (saying), 21 (twin), 22 (slip), 23 (cover), 24 (covering). */
public final class SayingTest {
    private static final int NONE = Check.NONE;
    private static final String CITY = "place p;place q;mark m;mark n;mark o;mark r;"
        + "thing t p;thing u p;thing v p;thing w q;thing y p;"
        + "is t m;is t n;is t o;is u n;is u o;is v o;is v r;is w m;"
        + "person a p 1;person b p 1;person c q 1;person d p 1;"
        + "knows a m;knows a n;knows a o;knows a r;knows b o;knows b r;";

    public static void main(String[] args) {
        fitting();
        saying();
        shortest();
        twins();
        slips();
        covers();
        Check.finish();
    }

    private static void fitting() {
        NounFast x = Check.with(CITY);
        Check.due("none", 23, x.fits(0, 0, 0));
        Check.due("n", 3, x.fits(0, 0, 2));
        Check.due("n for one who does not know it", 23, x.fits(1, 0, 2));
        Check.due("n and o for him", 7, x.fits(1, 0, 6));
        Check.due("o and r", 4, x.fits(0, 0, 12));
        Check.due("all", 0, x.fits(0, 0, 15));
        Check.due("there", 8, x.fits(0, 1, 1));
        Check.due("for one who knows none", 23, x.fits(3, 0, 15));
        x.name(0, 0);
        Check.due("what is carried does not count", 2, x.fits(0, 0, 2));
        Check.due("no such person", NONE, x.fits(4, 0, 0));
        Check.due("no such person", NONE, x.fits(-1, 0, 0));
        Check.due("no such place", NONE, x.fits(0, 2, 0));
        Check.due("no such mark", NONE, x.fits(0, 0, 16));
        Check.due("no such mark", NONE, x.fits(0, 0, Integer.MIN_VALUE));
    }

    private static void saying() {
        NounFast x = Check.with(CITY);
        Check.due("ahead of any", NONE, x.saying());
        Check.due("t to a", 1, x.say(0, 0));
        Check.due("by m", 1, x.saying());
        Check.due("u to a: t has all its marks", NONE, x.say(1, 0));
        Check.due("stays", 1, x.saying());
        Check.due("v to a", 1, x.say(2, 0));
        Check.due("by r", 8, x.saying());
        Check.due("t to b", NONE, x.say(0, 1));
        Check.due("v to b", 1, x.say(2, 1));
        Check.due("w lies alone", 0, x.say(3, 3));
        Check.due("by none", 0, x.saying());
        Check.due("y has no marks", NONE, x.say(4, 0));
        Check.due("no such thing", NONE, x.say(5, 0));
        Check.due("no such person", NONE, x.say(0, 4));
        Check.due("no such ones", NONE, x.say(-1, -1));
        x.name(0, 0);
        Check.due("it is carried", NONE, x.say(0, 0));
        Check.due("u to a without t", 1, x.say(1, 0));
        Check.due("by n", 2, x.saying());
    }

    private static void shortest() {
        // t is alone by m and n, or n and o, or m and o; never by one mark.
        NounFast x = Check.with("place p;mark m;mark n;mark o;thing t p;thing u p;thing v p;thing w p;"
            + "is t m;is t n;is t o;is u m;is v n;is w o;person a p 1;knows a n;knows a m;knows a o;person b p 1;"
            + "knows b n;knows b o;");
        Check.due("two marks", 2, x.say(0, 0));
        Check.due("the least as bits", 3, x.saying());
        Check.due("two marks", 2, x.say(0, 1));
        Check.due("of those that he knows", 6, x.saying());
        // m and n are less as bits than o, but one mark is fewer.
        NounFast y = Check.with("place p;mark m;mark n;mark o;thing t p;thing u p;thing v p;is t m;is t n;is t o;"
            + "is u m;is v n;person a p 1;knows a m;knows a n;knows a o;");
        Check.due("the fewest", 1, y.say(0, 0));
        Check.due("by o", 4, y.saying());
    }

    private static void twins() {
        NounFast x = Check.with(CITY);
        Check.due("t for a", NONE, x.twin(0, 0));
        Check.due("u for a", 0, x.twin(1, 0));
        Check.due("t for b: u has o", 1, x.twin(0, 1));
        Check.due("v for b", NONE, x.twin(2, 1));
        Check.due("t for d who knows none", 1, x.twin(0, 3));
        Check.due("y has no marks", 0, x.twin(4, 0));
        Check.due("w lies alone", NONE, x.twin(3, 3));
        Check.due("no such thing", NONE, x.twin(5, 0));
        Check.due("no such person", NONE, x.twin(0, 4));
        x.name(0, 0);
        Check.due("it is carried", NONE, x.twin(0, 1));
        Check.due("none is carried", 2, x.twin(1, 1));
    }

    private static void fraction(NounFast x, int t, int q, int above, int below) {
        Check.due("slip above", above, x.slip(t, q, 0));
        Check.due("slip below", below, x.slip(t, q, 1));
    }

    private static void slips() {
        NounFast x = Check.with(CITY);
        fraction(x, 0, 0, 0, 1);
        fraction(x, 1, 0, 1, 1);
        fraction(x, 2, 0, 1, 2);
        fraction(x, 2, 3, 1, 1);
        fraction(x, 0, 3, 0, 1);
        fraction(x, 3, 0, 0, 1);
        NounFast y = Check.with("place p;mark m;mark n;mark o;mark r;thing s p;thing t p;is s m;is s o;"
            + "is t m;is t n;is t o;is t r;person a p 1;knows a m;knows a n;knows a o;knows a r;");
        fraction(y, 1, 0, 1, 2);
        NounFast z = Check.with("place p;mark m;mark n;mark o;thing s p;thing t p;is s m;is s o;"
            + "is t m;is t n;is t o;person a p 1;knows a m;knows a n;knows a o;person b p 1;");
        fraction(z, 1, 0, 2, 3);
        fraction(z, 1, 1, 1, 1);
        Check.throwsNoSuch("slip(4): no marks", () -> x.slip(4, 0, 0));
        Check.throwsNoSuch("slip(5)", () -> x.slip(5, 0, 0));
        Check.throwsNoSuch("slip(-1)", () -> x.slip(-1, 0, 0));
        Check.throwsNoSuch("slip for no one", () -> x.slip(0, 4, 0));
        Check.throwsNoSuch("slip what 2", () -> x.slip(0, 0, 2));
        Check.throwsNoSuch("slip what -1", () -> x.slip(0, 0, -1));
        x.name(0, 0);
        Check.throwsNoSuch("slip of what is carried", () -> x.slip(0, 0, 0));
        fraction(x, 1, 0, 0, 1);
    }

    private static void covers() {
        NounFast x = Check.with(CITY);
        Check.due("ahead of any", NONE, x.covering());
        Check.due("u is a twin by all marks", NONE, x.cover(0));
        Check.due("ahead of any", NONE, x.covering());
        Check.due("w lies alone", 0, x.cover(2));
        Check.due("by none", 0, x.covering());
        Check.due("no such person", NONE, x.cover(4));
        Check.due("no such person", NONE, x.cover(-1));
        // What he knows does not matter: just what lies where he is.
        NounFast y = Check.with("place p;place q;mark m;mark n;mark o;thing s p;thing t p;is s m;is s o;is t n;is t o;"
            + "person a p 1;person b q 1;thing u q;thing v q;is u o;is v m;is u n;");
        Check.due("one mark does not part both", 2, y.cover(0));
        Check.due("the least as bits", 3, y.covering());
        Check.due("two", 2, y.cover(1));
        Check.due("m and n, not m and o", 3, y.covering());
        y.name(1, 2);
        Check.due("one is left", 0, y.cover(1));
        y.name(1, 3);
        Check.due("nothing is left", 0, y.cover(1));
        NounFast z = Check.with("place p;mark k;mark m;mark n;mark o;thing s p;thing t p;thing u p;is s m;is s n;is t n;"
            + "is t o;is u o;is u m;person a p 1;is s k;is t k;is u k;");
        Check.due("three", 3, z.cover(0));
        Check.due("m, n and o", 14, z.covering());
        // k, l, m and n part all and are less as bits than k, l and o, but three marks are fewer.
        NounFast w = Check.with("place p;mark k;mark l;mark m;mark n;mark o;thing s p;thing t p;thing u p;is s k;is s m;"
            + "is t l;is t n;is u m;is u n;is u o;person a p 1;");
        Check.due("the fewest", 3, w.cover(0));
        Check.due("k, l and o", 19, w.covering());
    }
}
