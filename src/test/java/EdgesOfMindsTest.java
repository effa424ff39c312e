import java.util.Arrays;

/**
 * The edges of what sayings mean, of news, phrases and draws (promises 18 to 36 and '==== 3.' of the terms), one method
 * for each sentence.
 */
public final class EdgesOfMindsTest {
    private static final int NONE = Check.NONE;
    private static final int MIN = Integer.MIN_VALUE;
    private static final int MAX = Integer.MAX_VALUE;

    public static void main(String[] args) {
        fitting();
        saying();
        twins();
        slips();
        covers();
        spoken();
        shown();
        cants();
        rests();
        news();
        phrases();
        drawn();
        odds();
        Check.finish();
    }

    /** Two places y and z, marks a.., things k.. of these marks and persons s.. who know these, all of them in y. */
    private static NounFast room(int marks, int[] things, int... persons) {
        StringBuilder s = new StringBuilder("place y;place z;");
        for (int m = 0; m < marks; m++) {
            s.append("mark ").append(Check.letter(m)).append(';');
        }
        for (int t = 0; t < things.length; t++) {
            char name = (char) ('k' + t);
            s.append("thing ").append(name).append(" y;");
            tellPairs(s, "is", name, things[t]);
        }
        for (int p = 0; p < persons.length; p++) {
            char name = (char) ('s' + p);
            s.append("person ").append(name).append(" y 9;");
            tellPairs(s, "knows", name, persons[p]);
        }
        return Check.with(s.toString());
    }

    private static void tellPairs(StringBuilder s, String word, char name, int marks) {
        for (int m = 0; m < 10; m++) {
            if ((marks >> m & 1) == 1) {
                s.append(word).append(' ').append(name).append(' ').append(Check.letter(m)).append(';');
            }
        }
    }

    // "A THING FITS a SAYING for a PERSON, if it has all of its MARKS that he knows." 18: "(none, too)"; "NONE: no such ones"
    private static void fitting() {
        NounFast x = room(10, new int[] {1023, 511, 1, 0}, 1023, 512, 0);
        Check.due("none: all fit", 15, x.fits(0, 0, 0));
        Check.due("all ten", 1, x.fits(0, 0, 1023));
        Check.due("the tenth", 1, x.fits(0, 0, 512));
        Check.due("all but the tenth", 3, x.fits(0, 0, 511));
        Check.due("the first", 7, x.fits(0, 0, 1));
        Check.due("he knows the tenth alone", 15, x.fits(1, 0, 511));
        Check.due("he knows the tenth alone", 1, x.fits(1, 0, 1023));
        Check.due("he knows none", 15, x.fits(2, 0, 1023));
        Check.due("nothing lies there", 0, x.fits(0, 1, 0));
        for (int saying : new int[] {1024, 1025, MIN, -1, MAX}) {
            Check.due("a mark that there is not", NONE, x.fits(0, 0, saying));
        }
        for (int q : new int[] {MIN, -1, 3, MAX}) {
            Check.due("no such person", NONE, x.fits(q, 0, 0));
        }
        for (int l : new int[] {MIN, -1, 2, MAX}) {
            Check.due("no such place", NONE, x.fits(0, l, 0));
        }
        NounFast y = room(0, new int[] {0}, 0);
        Check.due("no marks: none may be said", 1, y.fits(0, 0, 0));
        Check.due("no marks", NONE, y.fits(0, 0, 1));
    }

    private static void saying() {
        sayingOfOneAlone();
        fewestMarks();
        leastAsBits();
        noSaying();
    }

    // "(none, if it lies alone)"; "(as if he was there)"
    private static void sayingOfOneAlone() {
        NounFast x = room(2, new int[] {3, 3}, 3, 0);
        Check.due("ahead of any", NONE, x.saying());
        Check.due("two alike", NONE, x.say(0, 0));
        Check.due("still ahead of any", NONE, x.saying());
        Check.due("one is carried off", 0, x.name(0, 1));
        Check.due("alone", 0, x.say(0, 0));
        Check.due("by none", 0, x.saying());
        Check.due("to one who knows nothing", 0, x.say(0, 1));
        Check.due("he goes away", 0, x.go(0, 1));
        Check.due("as if he was there", 0, x.say(0, 0));
        Check.due("it is put down there", 0, x.put(0, 1));
        Check.due("alone there", 0, x.say(1, 1));
    }

    // "the fewest of its MARKS that he knows such that of all that lie there it alone FITS"
    private static void fewestMarks() {
        int[] things = {1023, 1022, 1021, 1019, 1015, 1007, 991, 959};
        NounFast all = room(10, things, 1023);
        Check.due("each of the seven others lacks one", 7, all.say(0, 0));
        Check.due("these seven", 127, all.saying());
        NounFast x = room(10, things, 127, 63);
        Check.due("he knows just these", 7, x.say(0, 0));
        Check.due("he knows one less", NONE, x.say(0, 1));
        Check.due("the latest that was not NONE", 127, x.saying());
        // The last thing alone has the last mark, and one is fewer than the two that are less as bits.
        NounFast y = room(3, new int[] {1, 2, 7}, 7, 3);
        Check.due("one mark", 1, y.say(2, 0));
        Check.due("the third", 4, y.saying());
        Check.due("he does not know it", 2, y.say(2, 1));
        Check.due("the other two", 3, y.saying());
    }

    // "of like ones the least as bits"
    private static void leastAsBits() {
        NounFast x = room(10, new int[] {0, 1023, 0}, 1023, 768);
        Check.due("one of ten", 1, x.say(1, 0));
        Check.due("the first", 1, x.saying());
        Check.due("one of two", 1, x.say(1, 1));
        Check.due("the ninth", 256, x.saying());
        NounFast y = room(4, new int[] {15, 9, 10, 12}, 15);
        // Two are needed of the first three; the fourth is of no use.
        Check.due("two", 2, y.say(0, 0));
        Check.due("the first two", 3, y.saying());
    }

    // 19: "NONE: by none, it is carried, no such ones."
    private static void noSaying() {
        NounFast x = room(2, new int[] {1, 3, 0}, 3, 0);
        Check.due("another one has all its marks", NONE, x.say(0, 0));
        Check.due("it has no marks", NONE, x.say(2, 0));
        Check.due("he knows none", NONE, x.say(1, 1));
        Check.due("by the second", 1, x.say(1, 0));
        Check.due("it is carried", 0, x.name(0, 1));
        Check.due("carried", NONE, x.say(1, 0));
        for (int t : new int[] {MIN, -1, 3, MAX}) {
            Check.due("no such thing", NONE, x.say(t, 0));
        }
        for (int q : new int[] {MIN, -1, 2, MAX}) {
            Check.due("no such person", NONE, x.say(0, q));
        }
        Check.due("the latest that was not NONE", 2, x.saying());
    }

    // "TWIN: the first other THING that lies there and has all MARKS of it that he knows." 21: "NONE: ..."
    private static void twins() {
        NounFast x = room(2, new int[] {3, 3, 1, 0}, 3, 0);
        Check.due("the first other one", 1, x.twin(0, 0));
        Check.due("the first other one", 0, x.twin(1, 0));
        Check.due("more marks than its own", 0, x.twin(2, 0));
        Check.due("no marks", 0, x.twin(3, 0));
        Check.due("he knows none", 1, x.twin(0, 1));
        Check.due("he knows none", 0, x.twin(3, 1));
        Check.due("one is carried", 0, x.name(0, 0));
        Check.due("carried", NONE, x.twin(0, 0));
        Check.due("those that lie have less", NONE, x.twin(1, 0));
        Check.due("nor is it a twin any more", 1, x.twin(2, 0));
        Check.due("he goes", 0, x.go(0, 1));
        Check.due("he puts it down", 0, x.put(0, 0));
        Check.due("it lies alone", NONE, x.twin(0, 1));
        for (int t : new int[] {MIN, -1, 4, MAX}) {
            Check.due("no such thing", NONE, x.twin(t, 0));
        }
        for (int q : new int[] {MIN, -1, 2, MAX}) {
            Check.due("no such person", NONE, x.twin(0, q));
        }
        NounFast y = room(10, new int[] {511, 1023, 0, 0, 0, 0, 0, 1023}, 1023, 511);
        Check.due("the last one", 7, y.twin(1, 0));
        Check.due("the first one, without the tenth mark", 0, y.twin(1, 1));
    }

    private static void fraction(NounFast x, int t, int q, int above, int below) {
        Check.due("above, " + t + " for " + q, above, x.slip(t, q, 0));
        Check.due("below, " + t + " for " + q, below, x.slip(t, q, 1));
    }

    private static void slips() {
        slipsInLeastTerms();
        noSlips();
    }

    // "SLIP: how likely a MARK of it .. makes him take another one"; "0 above, 1 below, in least terms"
    private static void slipsInLeastTerms() {
        for (int n = 0; n <= 10; n++) {
            NounFast x = room(10, new int[] {(1 << n) - 1, 1023}, 1023, 0);
            int[] above = {0, 1, 1, 3, 2, 1, 3, 7, 4, 9, 1};
            int[] below = {1, 10, 5, 10, 5, 2, 5, 10, 5, 10, 1};
            fraction(x, 1, 0, above[n], below[n]);
            // Of a mark that he does not know he takes the first of all.
            fraction(x, 1, 1, 1, 1);
            if (n > 0) {
                fraction(x, 0, 0, 0, 1);
                fraction(x, 0, 1, 0, 1);
            }
        }
        NounFast y = room(1, new int[] {1, 1}, 1);
        fraction(y, 0, 0, 0, 1);
        fraction(y, 1, 0, 1, 1);
    }

    // 22: "NoSuchElementException: it is carried, has no MARKS, no such ones."
    private static void noSlips() {
        NounFast x = room(2, new int[] {3, 0, 1}, 3, 0);
        for (int what = 0; what < 2; what++) {
            int asked = what;
            Check.throwsNoSuch("no marks", () -> x.slip(1, 0, asked));
            for (int t : new int[] {MIN, -1, 3, MAX}) {
                Check.throwsNoSuch("thing " + t, () -> x.slip(t, 0, asked));
            }
            for (int q : new int[] {MIN, -1, 2, MAX}) {
                Check.throwsNoSuch("person " + q, () -> x.slip(0, q, asked));
            }
        }
        for (int what : new int[] {MIN, -1, 2, MAX}) {
            Check.throwsNoSuch("what " + what, () -> x.slip(0, 0, what));
        }
        fraction(x, 2, 0, 1, 1);
        Check.due("it is carried", 0, x.name(0, 0));
        Check.throwsNoSuch("carried", () -> x.slip(0, 0, 0));
        Check.throwsNoSuch("carried", () -> x.slip(0, 0, 1));
        fraction(x, 2, 0, 0, 1);
        Check.due("put down", 0, x.put(0, 0));
        fraction(x, 0, 0, 0, 1);
    }

    // "COVER for a PERSON: the fewest MARKS .. of like ones the least as bits." 23: "NONE: not by all, no such one."
    private static void covers() {
        NounFast x = room(10, new int[] {4, 8, 16, 32, 64, 128, 256, 512}, 0);
        Check.due("ahead of any", NONE, x.covering());
        Check.due("all eight are needed", 8, x.cover(0));
        Check.due("the last eight", 1020, x.covering());
        Check.due("he goes where nothing lies", 0, x.go(0, 1));
        Check.due("nothing lies", 0, x.cover(0));
        Check.due("none", 0, x.covering());
        NounFast y = room(3, new int[] {1, 3}, 7);
        Check.due("one has all that the other has", NONE, y.cover(0));
        Check.due("ahead of any", NONE, y.covering());
        Check.due("he takes one", 0, y.name(0, 1));
        Check.due("one lies alone", 0, y.cover(0));
        Check.due("by none", 0, y.covering());
        Check.due("he puts it back", 0, y.put(0, 1));
        Check.due("as before", NONE, y.cover(0));
        Check.due("the latest that was not NONE", 0, y.covering());
        // Two and three would part them as well as one and three, or one and two.
        NounFast z = room(4, new int[] {1, 6, 8}, 0);
        Check.due("three", 3, z.cover(0));
        Check.due("of two and three the second", 1 | 2 | 8, z.covering());
        for (int q : new int[] {MIN, -1, 1, MAX}) {
            Check.due("no such person", NONE, z.cover(q));
        }
        Check.due("no marks, one thing", 0, room(0, new int[] {0}, 0).cover(0));
        Check.due("no marks, two things", NONE, room(0, new int[] {0, 0}, 0).cover(0));
        Check.due("all ten do not part them", NONE, room(10, new int[] {1023, 1023}, 0).cover(0));
    }

    private static void spoken() {
        oneToEightPairs();
        bytesThatAreNotAsTold();
        howManySayings();
    }

    // "(a byte: a PERSON; then pairs of bytes: a THING, 1 it FITS, 0 it does not; 1 to 8 of them)"
    private static void oneToEightPairs() {
        NounFast x = room(2, new int[] {1, 2}, 3);
        Check.due("no byte", NONE, Check.spoken(x));
        Check.due("no pair", NONE, Check.spoken(x, 0));
        Check.due("half a pair", NONE, Check.spoken(x, 0, 0));
        int[] tape = new int[19];
        for (int pairs = 1; pairs <= 9; pairs++) {
            tape[2 * pairs] = 1;
            int[] told = Arrays.copyOf(tape, 2 * pairs + 1);
            Check.due(pairs + " pairs", pairs <= 8 ? 2 : NONE, Check.spoken(x, told));
            int[] half = Arrays.copyOf(tape, 2 * pairs + 2);
            Check.due(pairs + " pairs and a half", NONE, Check.spoken(x, half));
        }
        int[] full = new int[940];
        Check.due("a full tape", NONE, Check.spoken(x, full));
    }

    // 25: "NONE: not as told."
    private static void bytesThatAreNotAsTold() {
        NounFast x = room(2, new int[] {1, 2}, 3, 0);
        Check.due("the last person, the last thing", 4, Check.spoken(x, 1, 1, 1));
        Check.due("all known to none", 0, x.surely());
        for (int p : new int[] {2, 127, 128, 255}) {
            Check.due("person " + p, NONE, Check.spoken(x, p, 0, 1));
        }
        for (int t : new int[] {2, 8, 127, 128, 255}) {
            Check.due("thing " + t, NONE, Check.spoken(x, 0, t, 1));
            Check.due("thing " + t + " behind another", NONE, Check.spoken(x, 0, 0, 1, t, 0));
        }
        for (int fits : new int[] {2, '0', '1', 128, 255}) {
            Check.due("fits " + fits, NONE, Check.spoken(x, 0, 0, fits));
            Check.due("fits " + fits + " behind another", NONE, Check.spoken(x, 0, 0, 1, 0, fits));
        }
        Check.due("by the latest above 0", 0, x.surely());
        NounFast y = room(2, new int[0], 3);
        Check.due("no things", NONE, Check.spoken(y, 0, 0, 1));
        NounFast z = room(2, new int[] {1});
        Check.due("no persons", NONE, Check.spoken(z, 0, 0, 1));
    }

    // "SAYINGS (none, too) by which for him just so." 26: "MARKS that are in all of them .. by the latest spoken() above 0"
    private static void howManySayings() {
        NounFast x = room(10, new int[] {511, 1023, 0}, 1023, 0);
        Check.due("ahead of any", NONE, x.surely());
        Check.due("he knows none: all", 1024, Check.spoken(x, 1, 2, 1));
        Check.due("none is sure", 0, x.surely());
        Check.due("he knows none: it fits", 0, Check.spoken(x, 1, 2, 0));
        Check.due("by the latest above 0", 0, x.surely());
        Check.due("it lacks the tenth", 512, Check.spoken(x, 0, 0, 0));
        Check.due("the tenth is sure", 512, x.surely());
        Check.due("what has all fits all", 0, Check.spoken(x, 0, 1, 0));
        Check.due("by the latest above 0", 512, x.surely());
        Check.due("what has none fits none alone", 1, Check.spoken(x, 0, 2, 1));
        Check.due("nothing is in it", 0, x.surely());
        Check.due("all others", 1023, Check.spoken(x, 0, 2, 0));
        Check.due("just so and not so", 0, Check.spoken(x, 0, 0, 1, 0, 0));
        NounFast y = room(0, new int[] {0}, 0);
        Check.due("no marks: none alone", 1, Check.spoken(y, 0, 0, 1));
        Check.due("no marks", 0, y.surely());
        Check.due("no marks: it fits", 0, Check.spoken(y, 0, 0, 0));
        NounFast z = room(3, new int[] {6, 5, 3}, 7);
        Check.due("each lacks one", 1, Check.spoken(z, 0, 0, 0, 1, 0, 2, 0));
        Check.due("all are sure", 7, z.surely());
    }

    // "SHOW: the THING of which the greatest number .. is the least .. (of like ones the first)." 27: "(as it was then)"
    private static void shown() {
        NounFast x = room(3, new int[] {7, 7, 7, 7, 7, 7, 7, 3}, 7);
        Check.due("ahead of any", NONE, x.show());
        Check.due("not as told", NONE, Check.spoken(x, 0));
        Check.due("ahead of any", NONE, x.show());
        Check.due("no saying", 0, Check.spoken(x, 0, 0, 0));
        Check.due("ahead of any above 0", NONE, x.show());
        Check.due("eight", 8, Check.spoken(x, 0, 0, 1));
        Check.due("the last one alone parts them", 7, x.show());
        Check.due("four", 4, Check.spoken(x, 0, 7, 0));
        Check.due("nothing parts them: the first", 0, x.show());
        Check.due("no saying", 0, Check.spoken(x, 0, 0, 0));
        Check.due("by the latest above 0", 0, x.show());
        NounFast first = room(3, new int[] {3, 1, 7}, 7);
        Check.due("eight", 8, Check.spoken(first, 0, 2, 1));
        Check.due("the first one parts them best", 0, first.show());
        // Half and half is best; two of these are alike.
        NounFast y = room(3, new int[] {0, 4, 3, 5, 6}, 7);
        Check.due("none alone", 1, Check.spoken(y, 0, 0, 1));
        Check.due("one saying: the first", 0, y.show());
        Check.due("four", 4, Check.spoken(y, 0, 2, 1));
        Check.due("parts two and two", 3, y.show());
        Check.due("it is carried and gone", 0, y.name(0, 3));
        Check.due("as it was then", 3, y.show());
        Check.due("carried or not", 4, Check.spoken(y, 0, 2, 1));
        Check.due("carried or not", 3, y.show());
        Check.city(y, "");
        Check.due("as it was then", 3, y.show());
        Check.due("as it was then", 0, y.surely());
    }

    private static void cants() {
        fewestOfACant();
        noCants();
    }

    // "CANT for two PERSONS and two unlike THINGS that lie in one PLACE: the fewest MARKS .. of like ones the least as bits"
    private static void fewestOfACant() {
        int low = 31;
        int high = 31 << 5;
        int[] lacks = {32, 1, 2 | 64, 4 | 128, 8 | 256, 16 | 512, 16 | 512, 16 | 512};
        int[] things = new int[8];
        for (int t = 0; t < 8; t++) {
            things[t] = 1023 & ~lacks[t];
        }
        NounFast x = room(10, things, low, high);
        Check.due("ahead of any", NONE, x.canting());
        Check.due("all ten", 10, x.cant(0, 1, 0, 1));
        Check.due("all ten", 1023, x.canting());
        Check.due("the other way", 10, x.cant(1, 0, 1, 0));
        Check.due("not so", NONE, x.cant(0, 1, 1, 0));
        Check.due("the latest that was not NONE", 1023, x.canting());
        NounFast y = room(4, new int[] {3, 12, 0}, 3, 12);
        Check.due("two", 2, y.cant(0, 1, 0, 1));
        Check.due("the least of four ways", 5, y.canting());
        Check.city(y, "");
        Check.due("the latest that was not NONE", 5, y.canting());
    }

    // 28: "NONE: by none, not so, no such ones."
    private static void noCants() {
        NounFast x = room(2, new int[] {1, 2, 1}, 1, 2);
        Check.due("two have the first mark", NONE, x.cant(0, 1, 0, 1));
        Check.due("ahead of any", NONE, x.canting());
        Check.due("one is carried", 0, x.name(0, 2));
        Check.due("so it is", 2, x.cant(0, 1, 0, 1));
        Check.due("by both", 3, x.canting());
        Check.due("one is carried", NONE, x.cant(0, 1, 2, 1));
        Check.due("one is carried", NONE, x.cant(1, 0, 1, 2));
        Check.due("one thing", NONE, x.cant(0, 1, 0, 0));
        Check.due("one person", NONE, x.cant(0, 0, 0, 1));
        Check.due("one thing, though one mark means it to both", NONE, room(1, new int[] {1, 0}, 1, 1).cant(0, 1, 0, 0));
        for (int p : new int[] {MIN, -1, 2, MAX}) {
            Check.due("no such person", NONE, x.cant(p, 1, 0, 1));
            Check.due("no such person", NONE, x.cant(0, p, 0, 1));
        }
        for (int t : new int[] {MIN, -1, 3, MAX}) {
            Check.due("no such thing", NONE, x.cant(0, 1, t, 1));
            Check.due("no such thing", NONE, x.cant(0, 1, 0, t));
        }
        Check.due("he goes", 0, x.go(0, 1));
        Check.due("wherever they are", 2, x.cant(0, 1, 0, 1));
        Check.due("he puts it down", 0, x.put(0, 2));
        Check.due("in two places", NONE, x.cant(0, 1, 2, 1));
        Check.due("the latest that was not NONE", 3, x.canting());
    }

    private static void rested(NounFast x, int... marks) {
        for (int t = 0; t < marks.length; t++) {
            Check.due("rested(" + t + ")", marks[t], x.rested(t));
        }
    }

    private static void rests() {
        restsOfFewRounds();
        restOfManyRounds();
        noRest();
    }

    // 30: "how many ROUNDS (that in which nothing changes counted)"; "(by none, if none has)"
    private static void restsOfFewRounds() {
        NounFast x = room(10, new int[] {0, 0}, 0);
        Check.due("nothing has a mark", 1, x.rest(0));
        rested(x, NONE, NONE);
        Check.due("nothing lies there", 1, x.rest(1));
        NounFast y = room(10, new int[] {512, 0}, 0);
        Check.due("one has the last mark", 2, y.rest(0));
        rested(y, 9, NONE);
        // Both have one mark: the first is said by it, the other by none.
        NounFast z = room(1, new int[] {1, 1}, 0);
        Check.due("one mark for two", 2, z.rest(0));
        rested(z, 0, NONE);
        Check.due("the first is carried", 0, z.name(0, 0));
        Check.due("one mark for one", 2, z.rest(0));
        rested(z, NONE, 0);
        // The least of its marks: the others become free for those behind it.
        NounFast w = room(2, new int[] {3, 3}, 0);
        Check.due("two marks for two", 3, w.rest(0));
        rested(w, 0, 1);
        // "else the first that has it": no other one is said by none, so the second mark goes back to the first thing.
        NounFast v = room(2, new int[] {3}, 0);
        Check.due("two marks for one", 2, v.rest(0));
        rested(v, 0);
    }

    // "10 ROUNDS at most": the most that eight things can need is nine, each round the next one finds its mark.
    private static void restOfManyRounds() {
        int[] things = new int[8];
        for (int n = 1; n <= 8; n++) {
            for (int t = 0; t < n; t++) {
                things[t] = 1023 >> t << t & (1 << n) - 1;
            }
            NounFast x = room(10, Arrays.copyOf(things, n), 0);
            Check.due(n + " things", n + 1, x.rest(0));
            for (int t = 0; t < n; t++) {
                Check.due("the mark of " + t, t, x.rested(t));
            }
        }
    }

    // 30: "NONE: no such one." 31: "NONE: by none, it did not lie there, no such one, or ahead of any."
    private static void noRest() {
        NounFast x = room(3, new int[] {1, 2, 4, 0}, 0);
        for (int t = -1; t < 9; t++) {
            Check.due("ahead of any", NONE, x.rested(t));
        }
        for (int l : new int[] {MIN, -1, 2, MAX}) {
            Check.due("no such place", NONE, x.rest(l));
        }
        Check.due("ahead of any", NONE, x.rested(0));
        Check.due("it is carried", 0, x.name(0, 1));
        Check.due("rest", 2, x.rest(0));
        rested(x, 0, NONE, 2, NONE);
        for (int t : new int[] {MIN, -1, 4, 7, 8, MAX}) {
            Check.due("no such thing", NONE, x.rested(t));
        }
        Check.due("no such place", NONE, x.rest(2));
        rested(x, 0, NONE, 2, NONE);
        Check.due("he goes", 0, x.go(0, 1));
        Check.due("he puts it down", 0, x.put(0, 1));
        rested(x, 0, NONE, 2, NONE);
        Check.due("rest there", 2, x.rest(1));
        rested(x, NONE, 1, NONE, NONE);
    }

    // "how many HOURS till all know it." 32: "HOURS (0: he is alone); NONE: never all, no such one."
    private static void news() {
        Check.due("alone, and knows nothing", 0, room(1, new int[0], 0).news(0));
        NounFast x = room(5, new int[0], 1, 3, 6, 12, 24, 16);
        int[] hours = {5, 4, 3, 3, 4, 5};
        for (int p = 0; p < 6; p++) {
            Check.due("six in a row, from " + p, hours[p], x.news(p));
        }
        NounFast y = room(10, new int[0], 512, 512, 512, 512, 512, 512);
        Check.due("all at once", 1, y.news(5));
        NounFast z = room(2, new int[0], 1, 1, 2);
        for (int p = 0; p < 3; p++) {
            Check.due("never all", NONE, z.news(p));
        }
        NounFast w = room(2, new int[0], 1, 0);
        Check.due("who knows nothing never hears", NONE, w.news(0));
        Check.due("who knows nothing never tells", NONE, w.news(1));
        Check.due("he learns", 0, w.learn(1, 0));
        Check.due("now he hears", 1, w.news(0));
        for (int p : new int[] {MIN, -1, 2, MAX}) {
            Check.due("no such person", NONE, w.news(p));
        }
        Check.due("there are none", NONE, new NounFast().news(0));
    }

    private static void phrases() {
        phrasesOfEachLength();
        noPhrase();
    }

    // "PHRASE of a THING: its NAME, if it is no FAST, else 'the', for each of its MARKS a blank and its NAME, and ' one'."
    private static void phrasesOfEachLength() {
        StringBuilder city = new StringBuilder("place p;thing a p;thing abcdefg p;thing zzzzzzz p;fast 1;");
        StringBuilder want = new StringBuilder("the");
        for (int m = 0; m < 10; m++) {
            city.append("mark xxxxxx").append(Check.letter(m)).append(";is abcdefg xxxxxx").append(Check.letter(m)).append(';');
            want.append(" xxxxxx").append(Check.letter(m));
        }
        NounFast x = Check.with(city + "is zzzzzzz xxxxxxj;");
        Check.due("a name of one", 1, x.phrase(0));
        Check.same("a name of one", "a", Check.phrase(x));
        Check.due("a name of seven", 7, x.phrase(1));
        Check.same("a name of seven", "abcdefg", Check.phrase(x));
        x.days(1);
        Check.due("no marks", 7, x.phrase(0));
        Check.same("no marks", "the one", Check.phrase(x));
        Check.due("one mark", 15, x.phrase(2));
        Check.same("one mark", "the xxxxxxj one", Check.phrase(x));
        Check.due("ten marks", 87, x.phrase(1));
        Check.same("ten marks", want + " one", Check.phrase(x));
        Check.due("the last byte", 'e', x.byteAt(86));
        Check.due("no byte", NONE, x.byteAt(87));
        x.days(1);
        Check.due("a name of one again", 1, x.phrase(0));
        Check.due("the byte", 'a', x.byteAt(0));
        Check.due("of the longer one none is left", NONE, x.byteAt(1));
    }

    // 33: "NONE: no such one." 34: "NONE: none such."
    private static void noPhrase() {
        NounFast x = Check.with("place p;thing knife p;person a p 1;");
        Check.due("ahead of any", NONE, x.byteAt(0));
        Check.due("the name", 5, x.phrase(0));
        for (int t : new int[] {MIN, -1, 1, MAX}) {
            Check.due("no such thing", NONE, x.phrase(t));
        }
        for (int i : new int[] {MIN, -1, 5, 95, 96, MAX}) {
            Check.due("no such byte", NONE, x.byteAt(i));
        }
        Check.same("the latest phrase", "knife", Check.phrase(x));
        Check.due("carried or not", 0, x.name(0, 0));
        Check.due("carried or not", 5, x.phrase(0));
        Check.city(x, "");
        Check.same("the latest phrase", "knife", Check.phrase(x));
    }

    private static void drawn() {
        nDaysDrawn();
        drawsThatWrapAround();
        noThingsNoDraw();
        puttingDownTheFirst();
        learningIfHeCan();
    }

    // 35: "n (1 to 60) DAYS DRAWN by a seed: how many went by; NONE: not as told, no PERSONS."
    private static void nDaysDrawn() {
        NounFast x = Check.with(Check.fullCity());
        for (int n : new int[] {MIN, -1, 0, 61, MAX}) {
            Check.due("drawn(" + n + ")", NONE, x.drawn(n, 5));
        }
        Check.due("no day went by", 0, x.now(0));
        Check.due("one", 1, x.drawn(1, 5));
        Check.due("sixty", 60, x.drawn(60, 5));
        Check.due("the day", 61, x.now(0));
        Check.passTo(x, 341);
        Check.due("59 are left", 59, x.drawn(60, 5));
        Check.due("none is left", 0, x.drawn(60, 5));
        Check.due("the day", 400, x.now(0));
        Check.due("not as told", NONE, x.drawn(0, 5));
        NounFast y = Check.with("place p;thing t p;");
        Check.due("no persons", NONE, y.drawn(1, 5));
        Check.due("no day", 0, y.now(0));
        Check.due("no city", NONE, new NounFast().drawn(60, 5));
    }

    // "x becomes x * 1103515245 + 12345 (an int, wrapping), the draw is (x >>> 8) % n"
    private static void drawsThatWrapAround() {
        for (int seed : new int[] {0, 1, -1, MIN, MAX, 0x40000000, 3, 4, 5, 6, 7, 8, 9, 10, 11, 12}) {
            int x = seed * 1103515245 + 12345;
            int turn = (x >>> 8) % 6;
            int next = x * 1103515245 + 12345;
            NounFast y = Check.with("place p;place q;place r;thing t p;thing u p;person a p 9;fast 6;");
            Check.due("a day", 1, y.drawn(1, seed));
            int draw = (next >>> 8) % (turn == 0 ? 3 : 2);
            Check.due("seed " + seed + " goes to", turn == 0 ? draw : 0, y.person(0, 0));
            Check.due("seed " + seed + " takes", turn == 1 || turn == 2 ? 1 << draw : 0, y.person(0, 3));
            Check.due("seed " + seed + " names", turn == 1 ? 1 : 0, y.thing(0, 3) + y.thing(1, 3));
            // Of one thing there is a draw, too: it is 0.
            NounFast z = Check.with("place p;thing t p;person a p 9;fast 6;");
            Check.due("a day", 1, z.drawn(1, seed));
            Check.due("seed " + seed + " takes the one", turn == 1 || turn == 2 ? 1 : 0, z.person(0, 3));
        }
    }

    private static int behind(int x) {
        return x * 1103515245 + 12345;
    }

    private static int draw(int x, int n) {
        return (x >>> 8) % n;
    }

    // "1, 2: a draw of all THINGS (none: no draw)"
    private static void noThingsNoDraw() {
        for (int seed = 0; seed < 300; seed++) {
            int first = behind(seed);
            if (draw(first, 6) == 1 || draw(first, 6) == 2) {
                // With no thing the second person's turn is drawn at once.
                int second = behind(first);
                boolean goes = draw(second, 6) == 0;
                NounFast y = Check.with("place p;place q;place r;person a p 9;person b p 9;");
                Check.due("a day", 1, y.drawn(1, seed));
                Check.due("no thing, seed " + seed, goes ? draw(behind(second), 3) : 0, y.person(1, 0));
            }
        }
    }

    // "3: he puts down the first that he carries"
    private static void puttingDownTheFirst() {
        for (int seed = 0; seed < 60; seed++) {
            boolean puts = draw(behind(seed), 6) == 3;
            NounFast y = Check.with("place p;thing t p;thing u p;thing v p;person a p 9;");
            Check.due("he carries v", 0, y.point(0, 2));
            Check.due("he carries t", 0, y.point(0, 0));
            Check.due("a day", 1, y.drawn(1, seed));
            if (puts) {
                Check.due("the first, seed " + seed, 4, y.person(0, 3));
                NounFast z = Check.with("place p;thing t p;person a p 9;");
                Check.due("a day", 1, z.drawn(1, seed));
                Check.due("he carries none, seed " + seed, 1, z.lies(0));
            } else {
                Check.due("he keeps both, seed " + seed, 5, y.person(0, 3) & 5);
            }
        }
    }

    // "4: a draw of all PERSONS: he learns from that one (each, if he can)"
    private static void learningIfHeCan() {
        for (int seed = 0; seed < 120; seed++) {
            int first = behind(seed);
            if (draw(first, 6) == 4) {
                int from = draw(behind(first), 3);
                NounFast y = Check.with("place p;place q;mark m;mark n;mark o;person a p 9;person b p 9;person c q 9;"
                    + "knows a m;knows b o;knows c n;");
                Check.due("a day", 1, y.drawn(1, seed));
                // From himself, or from one elsewhere, he can't.
                Check.due("learns, seed " + seed, from == 1 ? 5 : 1, y.person(0, 2));
            }
        }
    }

    private static void odds() {
        nSeeds();
        oddsOfTheLastDays();
    }

    // 36: "Of n (1 to 30) seeds x, x and 1, ..; NONE: no such ones, no PERSONS."
    private static void nSeeds() {
        NounFast x = Check.with(Check.fullCity());
        for (int n : new int[] {MIN, -1, 0, 31, MAX}) {
            Check.due("odds of " + n, NONE, x.odds(0, n, 5));
        }
        for (int t : new int[] {MIN, -1, 8, MAX}) {
            Check.due("no such thing", NONE, x.odds(t, 1, 5));
        }
        int sum = 0;
        for (int i = 0; i < 30; i++) {
            // The seeds go on behind the greatest number at the least.
            sum += x.odds(7, 1, MAX - 15 + i);
        }
        Check.due("thirty are as thirty times one", sum, x.odds(7, 30, MAX - 15));
        Check.due("not all, not none", 1, sum > 0 && sum < 30 ? 1 : 0);
        Check.due("nothing went by", 0, x.now(0));
        Check.due("nothing is carried", 0, x.now(3));
        Check.due("nothing can be undone", NONE, x.undo());
        NounFast y = Check.with("place p;thing t p;");
        Check.due("no persons", NONE, y.odds(0, 1, 5));
        Check.due("no city", NONE, new NounFast().odds(0, 1, 5));
    }

    // "behind 20 DAYS DRAWN from now on", or as many as are left
    private static void oddsOfTheLastDays() {
        String city = Check.fullCity() + "fine 1;";
        for (int day : new int[] {0, 380, 381, 399}) {
            NounFast x = Check.with(city);
            Check.passTo(x, day);
            int[] carried = new int[8];
            for (int i = 0; i < 30; i++) {
                Check.due("twenty, or those that are left", Math.min(20, 400 - day), x.drawn(20, 77 + i));
                for (int t = 0; t < 8; t++) {
                    carried[t] += x.thing(t, 1) == NONE ? 0 : 1;
                }
                x.undo();
            }
            for (int t = 0; t < 8; t++) {
                Check.due("odds of " + t + " on day " + day, carried[t], x.odds(t, 30, 77));
            }
        }
        NounFast y = Check.with(city);
        Check.passTo(y, 400);
        Check.due("no day is left, it lies", 0, y.odds(0, 30, 1));
        Check.due("named", 0, y.name(0, 0));
        Check.due("no day is left, it is carried", 30, y.odds(0, 30, 1));
    }
}
