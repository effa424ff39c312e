/** Promises 35 (drawn) and 36 (odds): what the draws do is done here once more by the calls that persons act by. */
public final class DrawnTest {
    private static final int NONE = Check.NONE;
    private static final String CITY = "place p;place q;place r;mark m;mark n;mark o;thing t p;thing u q;thing v p;"
        + "is t m;is u n;person a p 4;person b q 2 foreign;person c p 0;person d r 90;knows a m;knows b n;knows c o;"
        + "fine 3;mite 2;wage 1;fast 3;";

    private static int x;

    public static void main(String[] args) {
        for (int seed : new int[] {0, 1, 7, -1, 12345, Integer.MAX_VALUE, Integer.MIN_VALUE, 99991}) {
            drawnAsLived(CITY, 1, seed);
            drawnAsLived(CITY, 20, seed);
            drawnAsLived(CITY, 60, seed);
            drawnAsLived("place p;place q;person a p 1;person b q 2;mark m;knows a m;", 30, seed);
            drawnAsLived("place p;thing t p;person a p 9;", 30, seed);
        }
        notAsTold();
        theLastDays();
        odds();
        Check.finish();
    }

    private static int draw(int n) {
        x = x * 1103515245 + 12345;
        return (x >>> 8) % n;
    }

    // An object answers 512 calls, so none is wasted here: sixty days of four persons need some 350.
    private static void live(NounFast y, int n, int seed) {
        int[] counts = {y.count(0), y.count(1), y.count(2), y.count(3)};
        x = seed;
        for (int day = 0; day < n; day++) {
            for (int p = 0; p < counts[3]; p++) {
                turn(y, counts, p);
            }
            y.days(1);
        }
    }

    private static void turn(NounFast y, int[] counts, int p) {
        int what = draw(6);
        if (what == 0) {
            y.go(p, draw(counts[0]));
        } else if (what == 1 && counts[2] > 0) {
            y.name(p, draw(counts[2]));
        } else if (what == 2 && counts[2] > 0) {
            y.point(p, draw(counts[2]));
        } else if (what == 3) {
            int carried = y.person(p, 3);
            if (carried != 0) {
                y.put(p, Integer.numberOfTrailingZeros(carried));
            }
        } else if (what == 4) {
            y.learn(p, draw(counts[3]));
        }
    }

    private static void same(String what, NounFast want, NounFast got) {
        for (int i = 0; i < 7; i++) {
            Check.due(what + " now(" + i + ")", want.now(i), got.now(i));
        }
        for (int t = 0; t < want.count(2); t++) {
            for (int i = 0; i < 4; i++) {
                Check.due(what + " thing(" + t + ", " + i + ")", want.thing(t, i), got.thing(t, i));
            }
        }
        for (int p = 0; p < want.count(3); p++) {
            for (int i = 0; i < 5; i++) {
                Check.due(what + " person(" + p + ", " + i + ")", want.person(p, i), got.person(p, i));
            }
        }
    }

    private static void drawnAsLived(String city, int n, int seed) {
        NounFast want = Check.with(city);
        live(want, n, seed);
        NounFast got = Check.with(city);
        Check.due("drawn", n, got.drawn(n, seed));
        same("drawn(" + n + ", " + seed + ")", want, got);
        Check.due("one act to undo", 0, got.undo());
        same("undone", Check.with(city), got);
    }

    private static void notAsTold() {
        NounFast y = Check.with(CITY);
        Check.due("drawn(0)", NONE, y.drawn(0, 1));
        Check.due("drawn(61)", NONE, y.drawn(61, 1));
        Check.due("drawn(-1)", NONE, y.drawn(-1, 1));
        Check.due("odds of no thing", NONE, y.odds(3, 1, 1));
        Check.due("odds of no thing", NONE, y.odds(-1, 1, 1));
        Check.due("odds of 0 seeds", NONE, y.odds(0, 0, 1));
        Check.due("odds of 31 seeds", NONE, y.odds(0, 31, 1));
        NounFast z = Check.with("place p;thing t p;");
        Check.due("no persons", NONE, z.drawn(1, 1));
        Check.due("no persons", NONE, z.odds(0, 1, 1));
    }

    private static void theLastDays() {
        NounFast y = Check.with(CITY);
        for (int i = 0; i < 6; i++) {
            y.days(60);
        }
        y.days(25);
        Check.due("fifteen days are left", 15, y.drawn(60, 3));
        Check.due("the last day", 400, y.now(0));
        int coins = y.now(2);
        Check.due("none is left", 0, y.drawn(1, 3));
        Check.due("nothing changed", coins, y.now(2));
        Check.due("and nothing can be undone by it", 7, y.undo());
        Check.due("day 385", 385, y.now(0));
    }

    private static int oddsByHand(int t, int n, int seed) {
        int carried = 0;
        for (int i = 0; i < n; i++) {
            NounFast y = Check.with(CITY);
            live(y, 20, seed + i);
            if (y.thing(t, 1) != NONE) {
                carried++;
            }
        }
        return carried;
    }

    private static void odds() {
        NounFast y = Check.with(CITY);
        for (int t = 0; t < 3; t++) {
            Check.due("odds of thirty", oddsByHand(t, 30, 5), y.odds(t, 30, 5));
            Check.due("odds of one", oddsByHand(t, 1, 77), y.odds(t, 1, 77));
            Check.due("odds of seven", oddsByHand(t, 7, -3), y.odds(t, 7, -3));
            int edge = Integer.MAX_VALUE - 1;
            Check.due("odds across the edge", oddsByHand(t, 4, edge), y.odds(t, 4, edge));
        }
        same("odds change nothing", Check.with(CITY), y);
        Check.due("nothing to undo", NONE, y.undo());
    }
}
