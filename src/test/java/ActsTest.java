/** Promises 10 (go), 11 (ask), 12 (name), 13 (point), 14 (put), 15 (learn), 16 (days) and 17 (undo). */
public final class ActsTest {
    private static final int NONE = Check.NONE;
    private static final String CITY = "place p;place q;mark m;mark n;mark o;thing t p;thing u p;thing v q;"
        + "is t m;is t o;is u n;person a p 10;person b q 20 foreign;person c p 0;knows a m;knows a n;knows b o;"
        + "fine 4;mite 2;wage 3;fast 2;";

    public static void main(String[] args) {
        going();
        asking();
        naming();
        pointing();
        putting();
        learning();
        days();
        undoing();
        onlyEightAreKept();
        whatCanBeUndone();
        Check.finish();
    }

    private static void going() {
        NounFast x = Check.with(CITY);
        Check.due("he is there", 1, x.go(0, 0));
        Check.due("he goes", 0, x.go(0, 1));
        Check.due("he is there", 1, x.go(0, 1));
        Check.due("no such person", NONE, x.go(3, 0));
        Check.due("no such person", NONE, x.go(-1, 0));
        Check.due("no such place", NONE, x.go(0, 2));
        Check.due("no such place", NONE, x.go(0, -1));
    }

    private static void asking() {
        NounFast x = Check.with("place p;place q;mark m;mark n;thing t p;thing u p;thing v p;is t m;is u m;is u n;"
            + "is v n;person a p 1;person b p 1;person c q 1;person d p 1;knows b m;knows b n;knows c m;");
        Check.due("himself", 1, x.ask(0, 0, 1));
        Check.due("one elsewhere", 1, x.ask(0, 2, 1));
        Check.due("no mark", NONE, x.ask(0, 1, 0));
        Check.due("a mark that there is not", NONE, x.ask(0, 1, 4));
        Check.due("a mark that there is not", NONE, x.ask(0, 1, 5));
        Check.due("all bits", NONE, x.ask(0, 1, -1));
        Check.due("no such person", NONE, x.ask(4, 1, 1));
        Check.due("no such person", NONE, x.ask(0, 4, 1));
        Check.due("no such person", NONE, x.ask(-1, 0, 1));
        Check.due("by both marks", 0, x.ask(0, 1, 3));
        Check.due("the one that fits", 2, x.person(0, 3));
        Check.due("no guess", 0, x.now(4));
        Check.due("nothing is left that fits", 2, x.ask(0, 1, 3));
        Check.due("by a mark that he does not know", 0, x.ask(0, 3, 2));
        Check.due("the first of all that lies there", 3, x.person(0, 3));
        Check.due("a guess", 1, x.now(4));
        Check.due("by one mark", 0, x.ask(1, 3, 1));
        Check.due("one thing only: no guess", 1, x.now(4));
        Check.due("nothing lies there", 2, x.ask(0, 3, 1));
        x.go(0, 1);
        Check.due("nothing lies there", 2, x.ask(0, 2, 2));
        Check.due("asked things are not named", 0, x.thing(1, 3));
    }

    private static void naming() {
        NounFast x = Check.with(CITY);
        Check.due("it does not lie there", 1, x.name(0, 2));
        Check.due("he names it", 0, x.name(0, 0));
        Check.due("it is carried", 1, x.name(2, 0));
        Check.due("by himself", 1, x.name(0, 0));
        Check.due("no fine on this day", 10, x.person(0, 1));
        Check.due("no such thing", NONE, x.name(0, 3));
        Check.due("no such person", NONE, x.name(3, 0));
        x.days(2);
        Check.due("six coins are enough", 0, x.name(2, 1));
        Check.due("he paid the fine", 2, x.person(2, 1));
        x.put(2, 1);
        Check.due("two are not", 2, x.name(2, 1));
        Check.due("it still lies", 2, x.lies(0));
        Check.due("where it lies comes first", 1, x.name(2, 2));
        x.put(0, 0);
        Check.due("who is foreign", 0, x.name(1, 2));
        Check.due("pays nothing", 26, x.person(1, 1));
        NounFast y = Check.with("place p;thing t p;thing u p;person a p 4;person b p 3;person c p 0 foreign;"
            + "fine 4;fast 0;");
        Check.due("less than the fine", 2, y.name(1, 0));
        Check.due("as much as the fine", 0, y.name(0, 0));
        Check.due("nothing is left", 0, y.person(0, 1));
        Check.due("foreign without coins", 0, y.name(2, 1));
        Check.due("one fine", 1, y.now(5));
        Check.due("named", 1, y.thing(1, 3));
    }

    private static void pointing() {
        NounFast x = Check.with("place p;place q;thing t p;thing u p;thing v q;person a p 2;person b p 1;"
            + "person c p 1 foreign;mite 2;fast 0;");
        Check.due("elsewhere", 1, x.point(0, 2));
        Check.due("less than the mite", 2, x.point(1, 0));
        Check.due("foreign and less than the mite", 2, x.point(2, 0));
        Check.due("as much as the mite", 0, x.point(0, 0));
        Check.due("nothing is left", 0, x.person(0, 1));
        Check.due("not named", 0, x.thing(0, 3));
        Check.due("no fine", 0, x.now(5));
        Check.due("it is carried", 1, x.point(1, 0));
        x.days(1);
        Check.due("no fast, no mite", 0, x.point(1, 1));
        Check.due("all coins", 1, x.person(1, 1));
        Check.due("no such thing", NONE, x.point(0, 3));
        Check.due("no such person", NONE, x.point(-1, 0));
        NounFast y = Check.with("place p;thing t p;person a p 0;mite 0;fast 0;");
        Check.due("no mite", 0, y.point(0, 0));
    }

    private static void putting() {
        NounFast x = Check.with(CITY);
        Check.due("he does not carry it", 1, x.put(0, 0));
        x.name(0, 0);
        Check.due("another one carries it", 1, x.put(2, 0));
        x.go(0, 1);
        Check.due("he puts it down", 0, x.put(0, 0));
        Check.due("where he is", 5, x.lies(1));
        Check.due("not twice", 1, x.put(0, 0));
        Check.due("no such thing", NONE, x.put(0, 3));
        Check.due("no such person", NONE, x.put(3, 0));
        Check.due("no such thing", NONE, x.put(0, -1));
    }

    private static void learning() {
        NounFast x = Check.with("place p;place q;mark m;mark n;mark o;person a p 1;person b p 1;person c q 1;"
            + "knows a n;knows b m;knows b n;knows b o;knows c m;");
        Check.due("from himself", 1, x.learn(0, 0));
        Check.due("from one elsewhere", 1, x.learn(0, 2));
        Check.due("nothing new", 2, x.learn(1, 0));
        Check.due("the first mark", 0, x.learn(0, 1));
        Check.due("it is the least", 3, x.person(0, 2));
        Check.due("the next", 0, x.learn(0, 1));
        Check.due("all three", 7, x.person(0, 2));
        Check.due("no more", 2, x.learn(0, 1));
        Check.due("no such person", NONE, x.learn(0, 3));
        Check.due("no such person", NONE, x.learn(3, 0));
        Check.due("no such person", NONE, x.learn(-1, 0));
    }

    private static void days() {
        NounFast x = Check.with("place p;person a p 97;person b p 0;wage 3;fast 1;");
        Check.due("no days", NONE, x.days(0));
        Check.due("too many", NONE, x.days(61));
        Check.due("below", NONE, x.days(-1));
        Check.due("one day", 1, x.days(1));
        Check.due("99 at most", 99, x.person(0, 1));
        Check.due("the wage", 3, x.person(1, 1));
        Check.due("a fast", 1, x.days(1));
        Check.due("no wage", 3, x.person(1, 1));
        Check.due("a week", 7, x.days(7));
        Check.due("six wages", 21, x.person(1, 1));
        for (int i = 0; i < 6; i++) {
            Check.due("sixty days", 60, x.days(60));
        }
        Check.due("day 369", 369, x.now(0));
        Check.due("the last days", 31, x.days(60));
        Check.due("all are over", 400, x.now(0));
        Check.due("no more", 0, x.days(1));
        Check.due("day 400", 400, x.now(0));
        Check.due("400 is a fast by its number", 1, x.now(1));
        Check.due("the last ones are undone, seven more", 7, x.undo());
        Check.due("day 369", 369, x.now(0));
    }

    private static void undoing() {
        NounFast x = Check.with(CITY);
        Check.due("nothing", NONE, x.undo());
        x.name(0, 0);
        x.name(0, 0);
        x.go(0, 0);
        x.go(7, 0);
        Check.due("one act was done", 0, x.undo());
        Check.due("it lies", 3, x.lies(0));
        Check.due("not named", 0, x.thing(0, 3));
        x.days(2);
        x.name(0, 0);
        x.go(0, 1);
        x.learn(0, 1);
        x.put(0, 0);
        Check.due("put undone", 4, x.undo());
        Check.due("carried", 1, x.now(3));
        Check.due("learnt mark undone", 3, x.undo());
        Check.due("he knows", 3, x.person(0, 2));
        Check.due("went undone", 2, x.undo());
        Check.due("he is", 0, x.person(0, 0));
        Check.due("naming undone", 1, x.undo());
        Check.due("the coins", 16, x.person(0, 1));
        Check.due("the fines", 0, x.now(5));
        Check.due("the day stays", 2, x.now(0));
        Check.due("the days undone", 0, x.undo());
        Check.due("the first day", 0, x.now(0));
    }

    private static void onlyEightAreKept() {
        NounFast x = Check.with(CITY);
        for (int i = 0; i < 12; i++) {
            Check.due("a day", 1, x.days(1));
            Check.due("a failing act takes no room", 1, x.go(0, 0));
        }
        for (int i = 7; i >= 0; i--) {
            Check.due("undo", i, x.undo());
            Check.due("the day", 4 + i, x.now(0));
        }
        Check.due("no more", NONE, x.undo());
        Check.due("the day", 4, x.now(0));
    }

    private static void whatCanBeUndone() {
        NounFast x = Check.with(CITY);
        x.ask(0, 2, 1);
        Check.due("a guess", 1, x.now(4));
        Check.due("ask undone", 0, x.undo());
        Check.due("no guess", 0, x.now(4));
        x.days(1);
        x.point(0, 0);
        Check.due("point undone", 1, x.undo());
        Check.due("nothing carried", 0, x.now(3));
        Check.due("the day stays", 1, x.now(0));
        Check.due("the day undone", 0, x.undo());
        x.drawn(30, 5);
        Check.due("drawn undone", 0, x.undo());
        Check.due("the day", 0, x.now(0));
        Check.due("a book judged", NONE, Check.book(x, 0, "a names t;"));
        Check.due("leaves nothing", NONE, x.undo());
        Check.due("a book lived", 2, Check.book(x, 1, "a names t;day 3;a names t;"));
        Check.due("day 3", 3, x.now(0));
        Check.due("is undone at once", 0, x.undo());
        Check.due("the day", 0, x.now(0));
        Check.due("nothing carried", 0, x.now(3));
        Check.due("a book with a fault", -2, Check.book(x, 1, "x"));
        Check.due("leaves nothing", NONE, x.undo());
        x.days(1);
        Check.due("a sentence", 1, Check.sentence(x, "lone"));
        x.say(0, 0);
        x.odds(0, 3, 3);
        Check.due("other calls leave no act", 0, x.undo());
        Check.due("and the sentence stays", 3, x.said(NONE));
        x.days(1);
        Check.due("a city with a fault", -1, Check.city(x, "x"));
        Check.due("leaves the acts", 0, x.undo());
    }
}
