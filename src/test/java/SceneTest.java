/** Promises 6 (thing), 7 (person), 8 (lies) and 9 (now). */
public final class SceneTest {
    private static final String CITY = "place p;place q;mark m;mark n;mark o;thing t p;thing u p;thing v q;"
        + "is t m;is t o;is u n;person a p 10;person b q 20 foreign;person c p 0;knows a m;knows a n;knows b o;"
        + "fine 4;mite 2;wage 3;fast 2;";

    public static void main(String[] args) {
        things();
        persons();
        lying();
        now();
        Check.finish();
    }

    private static void things() {
        NounFast x = Check.with(CITY);
        int[][] want = {{0, -1, 5, 0}, {0, -1, 2, 0}, {1, -1, 0, 0}};
        for (int t = 0; t < want.length; t++) {
            for (int what = 0; what < 4; what++) {
                Check.due("thing(" + t + ", " + what + ")", want[t][what], x.thing(t, what));
            }
        }
        x.name(0, 1);
        x.go(0, 1);
        Check.due("it is where he is", 1, x.thing(1, 0));
        Check.due("who carries it", 0, x.thing(1, 1));
        Check.due("named once", 1, x.thing(1, 3));
        x.put(0, 1);
        Check.due("it stays there", 1, x.thing(1, 0));
        Check.due("nobody carries it", Check.NONE, x.thing(1, 1));
        x.go(0, 0);
        Check.due("it stays there", 1, x.thing(1, 0));
        x.name(1, 1);
        Check.due("named twice", 2, x.thing(1, 3));
        Check.throwsNoSuch("thing(-1, 0)", () -> x.thing(-1, 0));
        Check.throwsNoSuch("thing(3, 0)", () -> x.thing(3, 0));
        Check.throwsNoSuch("thing(0, -1)", () -> x.thing(0, -1));
        Check.throwsNoSuch("thing(0, 4)", () -> x.thing(0, 4));
        Check.throwsNoSuch("thing(MAX, MIN)", () -> x.thing(Integer.MAX_VALUE, Integer.MIN_VALUE));
    }

    private static void persons() {
        NounFast x = Check.with(CITY);
        int[][] want = {{0, 10, 3, 0, 0}, {1, 20, 4, 0, 1}, {0, 0, 0, 0, 0}};
        for (int p = 0; p < want.length; p++) {
            for (int what = 0; what < 5; what++) {
                Check.due("person(" + p + ", " + what + ")", want[p][what], x.person(p, what));
            }
        }
        x.point(0, 0);
        x.point(0, 1);
        x.go(0, 1);
        Check.due("where he went", 1, x.person(0, 0));
        Check.due("what he carries", 3, x.person(0, 3));
        x.learn(0, 1);
        Check.due("what he knows", 7, x.person(0, 2));
        NounFast y = Check.with("place p;person a p 1 foreign;person b p 2;person c p 3 foreign;");
        Check.due("a is foreign", 1, y.person(0, 4));
        Check.due("b is not", 0, y.person(1, 4));
        Check.due("c is", 1, y.person(2, 4));
        Check.throwsNoSuch("person(-1, 0)", () -> x.person(-1, 0));
        Check.throwsNoSuch("person(3, 0)", () -> x.person(3, 0));
        Check.throwsNoSuch("person(0, 5)", () -> x.person(0, 5));
        Check.throwsNoSuch("person(0, -1)", () -> x.person(0, -1));
    }

    private static void lying() {
        NounFast x = Check.with(CITY);
        Check.due("lies(0)", 3, x.lies(0));
        Check.due("lies(1)", 4, x.lies(1));
        Check.due("lies(2)", Check.NONE, x.lies(2));
        Check.due("lies(-1)", Check.NONE, x.lies(-1));
        x.name(2, 0);
        Check.due("what is carried does not lie", 2, x.lies(0));
        x.go(2, 1);
        x.put(2, 0);
        Check.due("what was put down lies there", 5, x.lies(1));
    }

    private static void now() {
        NounFast x = Check.with(CITY);
        int[] want = {0, 0, 30, 0, 0, 0, 2, -1};
        for (int what = 0; what < want.length; what++) {
            Check.due("now(" + what + ")", want[what], x.now(what));
        }
        Check.due("now(-1)", Check.NONE, x.now(-1));
        x.days(2);
        Check.due("a fast", 1, x.now(1));
        Check.due("it is now", 0, x.now(6));
        Check.due("wages of two days", 30 + 2 * 3 * 3, x.now(2));
        x.name(0, 0);
        Check.due("a fine was paid", 1, x.now(5));
        Check.due("of four coins", 44, x.now(2));
        x.point(0, 1);
        Check.due("a mite is no fine", 1, x.now(5));
        Check.due("of two coins", 42, x.now(2));
        x.name(1, 2);
        Check.due("who is foreign pays none", 1, x.now(5));
        Check.due("no coins", 42, x.now(2));
        Check.due("carried", 7, x.now(3));
        x.days(1);
        Check.due("no wage for a fast", 42, x.now(2));
        Check.due("no fast", 0, x.now(1));
        Check.due("the next in six days", 6, x.now(6));
        for (int i = 0; i < 6; i++) {
            x.days(1);
        }
        Check.due("the day", 9, x.now(0));
        Check.due("the next fast", 1, x.now(1));
    }
}
