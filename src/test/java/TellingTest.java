/** Promises 30 (rest), 31 (rested), 32 (news), 33 (phrase), 34 (byteAt). */
public final class TellingTest {
    private static final int NONE = Check.NONE;

    public static void main(String[] args) {
        resting();
        restedStays();
        news();
        phrases();
        Check.finish();
    }

    private static void rested(NounFast x, int... marks) {
        for (int t = 0; t < marks.length; t++) {
            Check.due("rested(" + t + ")", marks[t], x.rested(t));
        }
    }

    private static void resting() {
        NounFast x = Check.with("place p;place q;place r;mark k;mark m;mark n;mark o;thing t p;thing u p;thing v p;"
            + "thing w q;is t k;is t m;is t n;is u m;is u n;is v n;is v o;is w o;person a p 1;");
        Check.due("ahead of any", NONE, x.rested(0));
        Check.due("t by k, then u by m", 3, x.rest(0));
        rested(x, 0, 1, 3, NONE);
        Check.due("w by o", 2, x.rest(1));
        rested(x, NONE, NONE, NONE, 3);
        Check.due("nothing lies there", 1, x.rest(2));
        rested(x, NONE, NONE, NONE, NONE);
        Check.due("no such place", NONE, x.rest(3));
        Check.due("no such place", NONE, x.rest(-1));
        x.name(0, 0);
        Check.due("without t", 2, x.rest(0));
        rested(x, NONE, 1, 3, NONE);
        Check.due("no such thing", NONE, x.rested(4));
        Check.due("no such thing", NONE, x.rested(8));
        Check.due("no such thing", NONE, x.rested(-1));
        NounFast y = Check.with("place p;mark a;mark b;mark c;thing x p;thing y p;thing z p;is x a;is x b;is y b;is y c;"
            + "is z a;is z c;");
        Check.due("z is said by none", 2, y.rest(0));
        rested(y, 0, 2, NONE);
        // Four things in a chain: each round frees a mark for the next one.
        NounFast z = Check.with("place p;mark a;mark b;mark c;mark d;thing s p;thing t p;thing u p;thing v p;"
            + "is s a;is s b;is t b;is t c;is s c;is u c;is u d;is t d;is s d;is v d;");
        Check.due("by and by", 5, z.rest(0));
        rested(z, 0, 1, 2, 3);
        theLongestRest();
    }

    private static void theLongestRest() {
        StringBuilder city = new StringBuilder("place p;");
        for (int t = 0; t < 8; t++) {
            city.append("mark ").append((char) ('a' + t)).append(";thing ").append((char) ('s' + t)).append(" p;");
        }
        for (int t = 0; t < 8; t++) {
            for (int m = t; m < 8; m++) {
                city.append("is ").append((char) ('s' + t)).append(' ').append((char) ('a' + m)).append(';');
            }
        }
        NounFast x = Check.with(city.toString());
        Check.due("eight things, one a round", 9, x.rest(0));
        rested(x, 0, 1, 2, 3, 4, 5, 6, 7);
    }

    private static void restedStays() {
        NounFast x = Check.with("place p;mark m;mark n;thing t p;thing u p;is t m;is u n;");
        Check.due("both", 2, x.rest(0));
        Check.due("no such place", NONE, x.rest(1));
        rested(x, 0, 1);
        Check.city(x, "place p;");
        rested(x, 0, 1);
        Check.due("nothing lies there", 1, x.rest(0));
        rested(x, NONE, NONE);
    }

    private static void news() {
        NounFast x = Check.with("place p;place q;mark k;mark m;mark n;person a p 1;person b q 1;person c p 1;person d q 1;"
            + "knows a k;knows b k;knows b m;knows c m;knows c n;knows d n;");
        int[] want = {3, 2, 2, 3};
        for (int p = 0; p < 4; p++) {
            Check.due("news(" + p + ")", want[p], x.news(p));
        }
        Check.due("no such person", NONE, x.news(4));
        Check.due("no such person", NONE, x.news(-1));
        NounFast y = Check.with("place p;mark m;person a p 1;person b p 1;knows a m;");
        Check.due("never", NONE, y.news(0));
        Check.due("never", NONE, y.news(1));
        y.learn(1, 0);
        Check.due("behind the learning", 1, y.news(1));
        Check.due("alone", 0, Check.with("place p;person a p 1;").news(0));
        NounFast z = Check.with("place p;mark m;person a p 1;person b p 1;person c p 1;knows a m;knows b m;knows c m;");
        Check.due("all at once", 1, z.news(2));
    }

    private static void phrases() {
        NounFast x = Check.with("place p;mark shiny;mark cold;mark abcdefg;thing knife p;thing z p;is knife cold;"
            + "is knife shiny;is knife abcdefg;fast 1;");
        Check.due("ahead of any", NONE, x.byteAt(0));
        Check.due("its name", 5, x.phrase(0));
        Check.same("its name", "knife", Check.phrase(x));
        Check.due("no such byte", NONE, x.byteAt(-1));
        Check.due("no such byte", NONE, x.byteAt(5));
        Check.due("no such thing", NONE, x.phrase(2));
        Check.due("no such thing", NONE, x.phrase(-1));
        Check.same("stays", "knife", Check.phrase(x));
        x.days(1);
        Check.same("stays", "knife", Check.phrase(x));
        Check.due("on a fast", 26, x.phrase(0));
        Check.same("on a fast", "the shiny cold abcdefg one", Check.phrase(x));
        Check.due("without marks", 7, x.phrase(1));
        Check.same("without marks", "the one", Check.phrase(x));
        x.days(1);
        Check.due("the next day", 1, x.phrase(1));
        Check.same("the next day", "z", Check.phrase(x));
        longestPhrase();
    }

    private static void longestPhrase() {
        StringBuilder city = new StringBuilder("place p;thing t p;fast 0;");
        StringBuilder want = new StringBuilder("the");
        for (char c = 'a'; c <= 'j'; c++) {
            city.append("mark zzzzzz").append(c).append(";is t zzzzzz").append(c).append(';');
            want.append(" zzzzzz").append(c);
        }
        NounFast x = Check.with(city.toString());
        Check.due("ten long marks", 87, x.phrase(0));
        Check.same("ten long marks", want.append(" one").toString(), Check.phrase(x));
    }
}
