/** Promises 1 (a new object), 2 (feed), 3 (end) and 43 (count). */
public final class TapeTest {
    public static void main(String[] args) {
        newObject();
        feeding();
        ending();
        counting();
        Check.finish();
    }

    private static void newObject() {
        NounFast x = new NounFast();
        int[] want = {0, 0, 0, 0, 3, 1, 2, 5, 0};
        for (int what = 0; what < want.length; what++) {
            Check.due("new count(" + what + ")", want[what], x.count(what));
        }
        Check.due("new fault()", 0, x.fault());
        Check.due("new now(0)", 0, x.now(0));
        Check.due("new lies(0)", Check.NONE, x.lies(0));
        Check.due("new told(0)", Check.NONE, x.told(0));
        Check.due("new said(NONE)", Check.NONE, x.said(Check.NONE));
        Check.due("new byteAt(0)", Check.NONE, x.byteAt(0));
        Check.due("NONE", -1, NounFast.NONE);
    }

    private static void feeding() {
        NounFast x = new NounFast();
        for (int i = 1; i <= 47; i++) {
            Check.due("feed " + i, 20 * i, x.feed(-1, 0, 1, 2, Integer.MIN_VALUE));
        }
        Check.due("feed beyond 940", Check.NONE, x.feed(0, 0, 0, 0, 0));
        Check.due("none came", 940, x.count(8));
        Check.due("end(921)", true, x.end(921));
        Check.due("feed would make 941", Check.NONE, x.feed(0, 0, 0, 0, 0));
        Check.due("end(920)", true, x.end(920));
        Check.due("feed makes 940", 940, x.feed(0, 0, 0, 0, 0));

        // The highest byte of each number comes first.
        x = new NounFast();
        x.feed('p' << 24 | 'l' << 16 | 'a' << 8 | 'c', 'e' << 24 | ' ' << 16 | 'x' << 8 | ';',
            'm' << 24 | 'a' << 16 | 'r' << 8 | 'k', '\n' << 24 | 'y' << 16 | 'y' << 8 | ' ', ';' << 24);
        x.end(17);
        Check.due("two lines", 2, x.city());
        Check.due("a place", 1, x.count(0));
        Check.due("a mark", 1, x.count(1));
    }

    private static void ending() {
        NounFast x = new NounFast();
        Check.due("end(0) of an empty tape", true, x.end(0));
        Check.due("end(1) of an empty tape", false, x.end(1));
        x.feed(1, 2, 3, 4, 5);
        Check.due("end(-1)", false, x.end(-1));
        Check.due("end(21)", false, x.end(21));
        Check.due("the tape is as it was", 20, x.count(8));
        Check.due("end(20)", true, x.end(20));
        Check.due("end(7)", true, x.end(7));
        Check.due("seven bytes", 7, x.count(8));
        Check.due("end(8)", false, x.end(8));
        Check.due("feed goes on behind them", 27, x.feed(1, 2, 3, 4, 5));
    }

    private static void counting() {
        NounFast x = Check.with("place p;place q;mark m;mark n;mark o;thing t p;person a q 1;person b p 2;"
            + "person c p 3;person d p 4;fine 20;mite 9;wage 0;fast 6;");
        int[] want = {2, 3, 1, 4, 20, 9, 0, 6, 0};
        for (int what = 0; what < want.length; what++) {
            Check.due("count(" + what + ")", want[what], x.count(what));
        }
        x.feed(0, 0, 0, 0, 0);
        Check.due("count(8)", 20, x.count(8));
        Check.due("count(9)", Check.NONE, x.count(9));
        Check.due("count(-1)", Check.NONE, x.count(-1));
    }
}
