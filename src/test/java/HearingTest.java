/** Promises 25 (spoken), 26 (surely), 27 (show), 28 (cant), 29 (canting). */
public final class HearingTest {
    private static final int NONE = Check.NONE;
    private static final String CITY = "place p;place q;mark m;mark n;mark o;thing t p;thing u p;thing v q;"
        + "is t m;is t n;is u n;is v m;is v n;is v o;person a p 1;person b p 1;knows a m;knows a n;knows a o;knows b o;";

    public static void main(String[] args) {
        spoken();
        notAsTold();
        asItWasThen();
        cants();
        noCants();
        Check.finish();
    }

    private static void spoken() {
        NounFast x = Check.with(CITY);
        Check.due("ahead of any", NONE, x.surely());
        Check.due("ahead of any", NONE, x.show());
        // t fits for a: none, m, n, m and n.
        Check.due("t fits", 4, Check.spoken(x, 0, 0, 1));
        Check.due("no mark is sure", 0, x.surely());
        Check.due("u parts them", 1, x.show());
        Check.due("t fits, u does not", 2, Check.spoken(x, 0, 0, 1, 1, 0));
        Check.due("m is sure", 1, x.surely());
        Check.due("all part nothing: the first", 0, x.show());
        Check.due("t does not fit", 4, Check.spoken(x, 0, 0, 0));
        Check.due("o is sure", 4, x.surely());
        Check.due("the first", 0, x.show());
        Check.due("both", 0, Check.spoken(x, 0, 0, 1, 0, 0));
        Check.due("stays", 4, x.surely());
        Check.due("twice the same", 4, Check.spoken(x, 0, 0, 0, 0, 0));
        Check.due("b knows o alone", 4, Check.spoken(x, 1, 0, 1));
        Check.due("nothing is sure", 0, x.surely());
        Check.due("eight pairs", 8, Check.spoken(x, 1, 2, 1, 2, 1, 2, 1, 2, 1, 2, 1, 2, 1, 2, 1, 2, 1));
        Check.due("t parts by o", 0, x.show());
        x.name(0, 0);
        Check.due("carried or elsewhere alike", 2, Check.spoken(x, 0, 0, 1, 1, 0));
    }

    private static void notAsTold() {
        NounFast x = Check.with(CITY);
        Check.due("four", 4, Check.spoken(x, 0, 0, 0));
        Check.due("nothing", NONE, Check.spoken(x));
        Check.due("a person alone", NONE, Check.spoken(x, 0));
        Check.due("half a pair", NONE, Check.spoken(x, 0, 0));
        Check.due("half a pair more", NONE, Check.spoken(x, 0, 0, 1, 1));
        Check.due("nine pairs", NONE, Check.spoken(x, 0, 2, 1, 2, 1, 2, 1, 2, 1, 2, 1, 2, 1, 2, 1, 2, 1, 2, 1));
        Check.due("no such person", NONE, Check.spoken(x, 2, 0, 1));
        Check.due("no such person", NONE, Check.spoken(x, 255, 0, 1));
        Check.due("no such thing", NONE, Check.spoken(x, 0, 3, 1));
        Check.due("no such thing", NONE, Check.spoken(x, 0, 0, 1, 128, 1));
        Check.due("no such word", NONE, Check.spoken(x, 0, 0, 2));
        Check.due("no such word", NONE, Check.spoken(x, 0, 0, 1, 1, 255));
        Check.due("stays", 4, x.surely());
        Check.due("stays", 0, x.show());
        Check.due("an empty city", NONE, Check.spoken(new NounFast(), 0, 0, 0));
    }

    private static void asItWasThen() {
        NounFast x = Check.with(CITY);
        Check.due("t fits", 4, Check.spoken(x, 0, 0, 1));
        Check.due("show", 1, x.show());
        Check.city(x, "");
        Check.due("as it was then", 1, x.show());
        Check.due("as it was then", 0, x.surely());
    }

    private static void cants() {
        NounFast x = Check.with("place p;mark m;mark n;mark o;mark r;thing t p;thing u p;thing v p;is t m;is t o;is u n;"
            + "is u o;is v o;is v r;person a p 1;person b p 1;person c p 1;knows a m;knows a o;knows b n;knows b r;"
            + "knows c m;knows c n;");
        Check.due("ahead of any", NONE, x.canting());
        Check.due("t for a, u for b", 2, x.cant(0, 1, 0, 1));
        Check.due("m and n", 3, x.canting());
        Check.due("t for a, v for b", 2, x.cant(0, 1, 0, 2));
        Check.due("m and r", 9, x.canting());
        Check.due("u for b, t for a", 2, x.cant(1, 0, 1, 0));
        Check.due("m and n", 3, x.canting());
        Check.due("u for a", NONE, x.cant(0, 1, 1, 0));
        Check.due("stays", 3, x.canting());
        Check.due("t for a, u for c", NONE, x.cant(0, 2, 0, 1));
        // m, n and r would do and are less as bits, but o and r are fewer.
        NounFast y = Check.with("place p;mark m;mark n;mark o;mark r;thing t p;thing u p;thing v p;is t m;is t n;is t o;"
            + "is u m;is u r;is v n;person a p 1;person b p 1;knows a m;knows a n;knows a o;knows b r;");
        Check.due("the fewest", 2, y.cant(0, 1, 0, 1));
        Check.due("o and r", 12, y.canting());
    }

    private static void noCants() {
        NounFast x = Check.with("place p;place q;mark m;mark n;thing t p;thing u p;thing v q;is t m;is u n;"
            + "person a p 1;person b q 1;knows a m;knows b n;");
        Check.due("wherever they are", 2, x.cant(0, 1, 0, 1));
        Check.due("one person", NONE, x.cant(0, 0, 0, 1));
        Check.due("one thing", NONE, x.cant(0, 1, 0, 0));
        Check.due("in two places", NONE, x.cant(0, 1, 0, 2));
        Check.due("no such person", NONE, x.cant(2, 1, 0, 1));
        Check.due("no such person", NONE, x.cant(0, -1, 0, 1));
        Check.due("no such thing", NONE, x.cant(0, 1, 3, 1));
        Check.due("no such thing", NONE, x.cant(0, 1, 0, -1));
        x.name(0, 1);
        Check.due("one is carried", NONE, x.cant(0, 1, 0, 1));
    }
}
