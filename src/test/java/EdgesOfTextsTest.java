/**
 * The edges that 'Terms' names for tokens, for the three texts and for their faults (promises 4, 5, 37, 39), one
 * method for each sentence. A '|' in a text tells where its fault is.
 */
public final class EdgesOfTextsTest {
    private static final String[] WORDS = {"place", "mark", "thing", "is", "person", "foreign", "knows", "fine", "mite",
        "wage", "fast", "goes", "asks", "names", "points", "puts", "learns", "day", "or", "and", "not", "carried", "lone",
        "has", "at", "with", "marks", "named", "number"};
    // A place p, a mark m, a thing t, a person a; two of each.
    private static final String SMALL = "place p;place q;mark m;mark n;thing t p;thing u p;person a p 1;person b p 2;";

    public static void main(String[] args) {
        tokens();
        cityText();
        bookText();
        sentenceText();
        faults();
        Check.finish();
    }

    private static void city(String text, int lines) {
        NounFast x = new NounFast();
        Check.due("city " + text, lines, Check.city(x, text));
        Check.due("fault() of city " + text, 0, x.fault());
    }

    private static void badCity(String marked, int kind) {
        NounFast x = new NounFast();
        Check.due("city " + marked, -1 - Check.place(marked), Check.city(x, Check.unmarked(marked)));
        Check.due("fault() of city " + marked, kind, x.fault());
    }

    private static void book(String text, int answer) {
        NounFast x = Check.with(SMALL);
        Check.due("book " + text, answer, Check.book(x, 0, text));
        Check.due("fault() of book " + text, 0, x.fault());
    }

    private static void badBook(String marked, int kind) {
        NounFast x = Check.with(SMALL);
        Check.due("book " + marked, -2 - Check.place(marked), Check.book(x, 0, Check.unmarked(marked)));
        Check.due("fault() of book " + marked, kind, x.fault());
    }

    private static void sentence(String text, int ones) {
        NounFast x = Check.with(SMALL);
        Check.due("sentence " + text, ones, Check.sentence(x, text));
        Check.due("fault() of sentence " + text, 0, x.fault());
    }

    private static void badSentence(String marked, int kind) {
        NounFast x = Check.with(SMALL);
        Check.due("sentence " + marked, -1 - Check.place(marked), Check.sentence(x, Check.unmarked(marked)));
        Check.due("fault() of sentence " + marked, kind, x.fault());
    }

    private static String blanks(int n) {
        return " ".repeat(n);
    }

    private static void tokens() {
        blanksBetweenThem();
        wordsOfSevenLetters();
        numbersOfThreeDigits();
        wordsAndNumbersGoOn();
        signs();
    }

    // "with blanks (32, 10) between them or not"
    private static void blanksBetweenThem() {
        city("place p;mark m;", 2);
        city("\n place \n p \n ; \n mark \n m \n ; \n ", 2);
        city(blanks(3), 0);
        book("\n day \n 1 \n ; \n ", Check.NONE);
        sentence("\n marks \n < \n 1 \n ", 1);
        for (int b = 0; b < 256; b++) {
            NounFast x = new NounFast();
            boolean isBlank = b == 32 || b == 10;
            Check.due("byte " + b + " between lines", isBlank ? 2 : -9, Check.city(x, "place p;" + (char) b + "mark m;"));
            Check.due("fault() of byte " + b, isBlank ? 0 : 1, x.fault());
        }
    }

    // "WORDS: small letters, 1 to 7"
    private static void wordsOfSevenLetters() {
        for (int b = 0; b < 256; b++) {
            NounFast x = new NounFast();
            boolean isLetter = b >= 'a' && b <= 'z';
            boolean isBlank = b == 32 || b == 10;
            Check.due("word of byte " + b, isLetter ? 1 : isBlank ? -7 : -6, Check.city(x, "mark " + (char) b + ";"));
            Check.due("fault() of byte " + b, isLetter ? 0 : 1, x.fault());
        }
        city("mark abcdefg;", 1);
        city("mark zzzzzzz;mark zzzzzz;", 2);
        badCity("mark |abcdefgh;", 1);
        badCity("mark |aaaaaaaaaaaaaaaaaaaaaaaaaaaaaaaaaaaaaaaaaaaaaaaaaaaaaaaaaaaaaaaaa;", 1);
        badBook("|aaaaaaaa goes p;", 1);
        badSentence("has |mmmmmmmm", 1);
    }

    // "NUMBERS: 1 to 3 digits"
    private static void numbersOfThreeDigits() {
        city("fine 3;", 1);
        city("fine 03;", 1);
        city("fine 003;", 1);
        badCity("fine |0003;", 1);
        badCity("fine |00000000000000000000000000000003;", 1);
        book("day 060;", Check.NONE);
        badBook("day |0060;", 1);
        sentence("number < 999", 1);
        sentence("number < 0", 1);
        badSentence("number < |1000", 1);
        for (int b = 0; b < 256; b++) {
            boolean isDigit = b >= '0' && b <= '9';
            boolean isBlank = b == 32 || b == 10;
            NounFast x = Check.with(SMALL);
            Check.due("number of byte " + b, isDigit ? 1 : isBlank ? -10 : -9, Check.sentence(x, "number =" + (char) b));
            Check.due("fault() of byte " + b, isDigit ? 0 : 1, x.fault());
        }
    }

    // "A WORD, NUMBER goes on as long as small letters and digits do; what is not as told is no TOKEN."
    private static void wordsAndNumbersGoOn() {
        badCity("|placep;", 1);
        badCity("place |p1;", 1);
        badCity("place |1p;", 1);
        badCity("|fine3;", 1);
        badCity("fine |3a;", 1);
        badCity("place p;person a p |1foreign;", 1);
        badBook("day |1a;", 1);
        badBook("|day1;", 1);
        badSentence("marks<|2and lone", 1);
        badSentence("|marks2", 1);
        sentence("marks<2 and lone", 2);
    }

    // "; < = > ( ) ."
    private static void signs() {
        sentence("(marks<2)or(marks=2)or(marks>2)", 6);
        badCity("place p|<", 1);
        badCity("place p|=", 1);
        badCity("place p|>", 1);
        badCity("place p|(", 1);
        badCity("place p|)", 1);
        badCity("place p|.", 1);
        badBook("day 1|.", 1);
        badSentence("lone|.", 1);
        badSentence("lone|;", 1);
        badSentence("marks |! 1", 1);
    }

    private static void cityText() {
        cityOfNineHundredBytes();
        tokensAheadOfTheMostAreReadWhole();
        eachTwoOnce();
        coins();
        settings();
        settingsToldOnce();
        settingsWithout();
        namesThatAreNone();
        namesToldOnce();
        mostOfEachSort();
        numberedFromNought();
    }

    // "A CITY is a text of at most 900 bytes"; "the most bytes told, if there are more and no FAULT is ahead"
    private static void cityOfNineHundredBytes() {
        city("", 0);
        String lines = everyPair("is", "thing", 8);
        city(lines + blanks(900 - lines.length()), 1 + 10 + 8 + 80);
        badCity(lines + blanks(900 - lines.length()) + "| ", 1);
        badCity(lines + blanks(900 - lines.length()) + "|fine 3;", 1);
        badCity(lines + blanks(893 - lines.length()) + "fine 3;|fine 3;", 1);
        city(blanks(893) + "mark m;", 1);
        badCity(blanks(894) + "mark m|;", 1);
        badCity("mark m;" + blanks(893) + "|" + blanks(40), 1);
        badCity("|x" + blanks(939), 1);
        badCity("mark m;mark |m;" + blanks(926), 3);
        badCity("fine |0;" + blanks(933), 2);
    }

    // "TOKENS that begin ahead of it are read whole"
    private static void tokensAheadOfTheMostAreReadWhole() {
        badCity(blanks(894) + "mark |abcdefgh;", 1);
        badCity(blanks(894) + "mark a|bcdefg;", 1);
        badCity(blanks(895) + "mark |abcdefgh;", 1);
        badCity(blanks(895) + "mark |0000;", 1);
        badCity(blanks(894) + "fine |21;", 2);
        badCity(blanks(894) + "fine 2|0;", 1);
        badCity(blanks(895) + "fine |21;", 1);
        badCity("mark mm;" + blanks(886) + "mark |mm;", 3);
        badCity("mark m;" + blanks(887) + "mark m|m;", 1);
        badCity("place a;place b;place c;place d;" + blanks(867) + "|place e;", 4);
        badCity("place a;place b;place c;place d;" + blanks(868) + "|place e;", 1);
        badBook(blanks(395) + "day |61;", 2);
        badBook(blanks(396) + "day |61;", 1);
        badBook(blanks(399) + "|aa goes p;", 3);
        badBook("day 1;".repeat(40) + blanks(159) + "|day 1;", 4);
        badBook("day 1;".repeat(40) + blanks(160) + "|day 1;", 1);
        badSentence(blanks(195) + "has |mm", 3);
        badSentence(blanks(196) + "has |mm", 1);
        badSentence(blanks(199) + "|lonelylone", 1);
        badSentence(blanks(199) + "l|one", 1);
        badSentence("lone" + " or lone".repeat(19) + blanks(40) + "or |lone", 4);
        badSentence("lone" + " or lone".repeat(19) + blanks(41) + "or |lone", 1);
    }

    /** A city in which each of these has, or knows, each of ten marks. */
    private static String everyPair(String word, String sort, int n) {
        StringBuilder s = new StringBuilder("place p;");
        for (int m = 0; m < 10; m++) {
            s.append("mark ").append(Check.letter(m)).append(';');
        }
        for (int i = 0; i < n; i++) {
            s.append(sort).append(' ').append((char) ('s' + i)).append(sort.equals("thing") ? " p;" : " p 0;");
        }
        for (int i = 0; i < n; i++) {
            for (int m = 0; m < 10; m++) {
                s.append(word).append(' ').append((char) ('s' + i)).append(' ').append(Check.letter(m)).append(';');
            }
        }
        return s.toString();
    }

    // "'is' THING MARK (each two once)", "'knows' PERSON MARK (each two once)"
    private static void eachTwoOnce() {
        NounFast x = Check.with(everyPair("is", "thing", 8));
        for (int t = 0; t < 8; t++) {
            Check.due("all marks of " + t, 1023, x.thing(t, 2));
        }
        NounFast y = Check.with(everyPair("knows", "person", 6));
        for (int p = 0; p < 6; p++) {
            Check.due("all marks that he knows, " + p, 1023, y.person(p, 2));
        }
        badCity(everyPair("is", "thing", 8) + "is s |a;", 3);
        badCity(everyPair("is", "thing", 8) + "is z |j;", 3);
        badCity(everyPair("knows", "person", 6) + "knows s |a;", 3);
        badCity(everyPair("knows", "person", 6) + "knows x |j;", 3);
        city(SMALL + "is t m;is t n;is u m;is u n;knows a m;knows a n;knows b m;knows b n;", 16);
        badCity(SMALL + "is t m;is t |m;", 3);
        badCity(SMALL + "knows a m;knows a |m;", 3);
    }

    // "COINS ... (0 to 99)"
    private static void coins() {
        NounFast x = Check.with("place p;person a p 0;person b p 99;person c p 00 foreign;person d p 099 foreign;");
        int[] want = {0, 99, 0, 99};
        for (int p = 0; p < 4; p++) {
            Check.due("coins of " + p, want[p], x.person(p, 1));
            Check.due("foreign " + p, p / 2, x.person(p, 4));
        }
        badCity("place p;person a p |100;", 2);
        badCity("place p;person a p |100 foreign;", 2);
        badCity("place p;person a p |999;", 2);
        badCity("place p;person a p |;", 1);
        badCity("place p;person a p |foreign;", 1);
        badCity("place p;person a p 1 foreign |foreign;", 1);
        badCity("place p;person a p 1 |2;", 1);
    }

    // "'fine' N (1 to 20 ..", "'mite' N (0 to 9 ..", "'wage' N (0 to 9 ..", "'fast' N (0 to 6 .."
    private static void settings() {
        String[] words = {"fine", "mite", "wage", "fast"};
        int[] least = {1, 0, 0, 0};
        int[] most = {20, 9, 9, 6};
        for (int i = 0; i < 4; i++) {
            for (int n = 0; n < 1000; n++) {
                NounFast x = new NounFast();
                boolean isTold = n >= least[i] && n <= most[i];
                Check.due(words[i] + " " + n, isTold ? 1 : -6, Check.city(x, words[i] + " " + n + ";"));
                Check.due("fault() of " + words[i] + " " + n, isTold ? 0 : 2, x.fault());
                if (isTold) {
                    Check.due("count() of " + words[i], n, x.count(4 + i));
                }
            }
        }
    }

    // "once": "'fine', 'mite', 'wage', 'fast' told again (at the WORD)"
    private static void settingsToldOnce() {
        city("fast 1;wage 1;mite 1;fine 1;", 4);
        badCity("fine 3;|fine 3;", 3);
        badCity("mite 1;|mite 1;", 3);
        badCity("wage 2;|wage 2;", 3);
        badCity("fast 5;|fast 5;", 3);
        badCity("fine 1;mite 1;wage 1;fast 1;|fine 1;", 3);
        // What is told again stands ahead of all that may be wrong behind it.
        badCity("fine 1;|fine 0;", 3);
        badCity("fast 1;|fast x;", 3);
        badCity("wage 1;|wage", 3);
    }

    // "3 without", "1 without", "2 without", "5 without"
    private static void settingsWithout() {
        int[] without = {3, 1, 2, 5};
        NounFast x = Check.with("fine 20;mite 9;wage 9;fast 6;");
        Check.due("a city that tells none", 1, Check.city(x, "place p;"));
        for (int i = 0; i < 4; i++) {
            Check.due("without, count(" + (4 + i) + ")", without[i], x.count(4 + i));
        }
    }

    // "NAME: a WORD, none of those told here, in a BOOK or a SENTENCE"
    private static void namesThatAreNone() {
        for (String word : WORDS) {
            badCity("place |" + word + ";", 1);
            badCity("mark |" + word + ";", 1);
            badCity("place p;thing |" + word + " p;", 1);
            badCity("place p;person |" + word + " p 1;", 1);
            badCity("place p;thing t |" + word + ";", 1);
            badCity(SMALL + "is |" + word + " m;", 1);
            badCity(SMALL + "is t |" + word + ";", 1);
            badCity(SMALL + "knows |" + word + " m;", 1);
            badCity(SMALL + "knows a |" + word + ";", 1);
            // One letter more or less, and it is a name.
            city("mark " + word.substring(1) + "x;", 1);
            if (word.length() < 7) {
                city("mark " + word + "x;", 1);
            }
        }
        city("mark the;mark one;mark none;", 3);
    }

    // "told once"; "a NAME told twice"
    private static void namesToldOnce() {
        String[] lines = {"place |x;", "mark |x;", "thing |x p;", "person |x p 1;"};
        for (String first : lines) {
            for (String second : lines) {
                badCity("place p;" + Check.unmarked(first) + second, 3);
            }
        }
        city("place x;mark xx;thing xxx x;person xxxx x 1;", 4);
    }

    // "4 PLACES, 10 MARKS, 8 THINGS, 6 PERSONS at most"; "one more than there may be of a sort"
    private static void mostOfEachSort() {
        city(Check.fullCity(), 4 + 10 + 8 + 6);
        String[] lines = {"|place x;", "|mark x;", "|thing x pa;", "|person x pa 1;"};
        for (String line : lines) {
            badCity(Check.fullCity() + line, 4);
        }
        // It is at the line's first word, and so ahead of what may be wrong behind it.
        badCity(Check.fullCity() + "|place pa;", 4);
        badCity(Check.fullCity() + "|mark 1;", 4);
        badCity(Check.fullCity() + "|thing", 4);
        badCity(Check.fullCity() + "|person x x 100;", 4);
        // What is told ahead of it comes first.
        badCity("place a;place b;place c;place |c;place d;place e;", 3);
    }

    // "numbered from 0 each"
    private static void numberedFromNought() {
        NounFast x = Check.with(Check.fullCity() + "is ta ma;is th mj;knows ha ma;knows hf mj;");
        Check.due("the first thing's place", 0, x.thing(0, 0));
        Check.due("the first thing's mark", 1, x.thing(0, 2));
        Check.due("the last thing's place", 3, x.thing(7, 0));
        Check.due("the last thing's mark", 512, x.thing(7, 2));
        Check.due("the first person's place", 0, x.person(0, 0));
        Check.due("the first person's mark", 1, x.person(0, 2));
        Check.due("the last person's place", 1, x.person(5, 0));
        Check.due("the last person's mark", 512, x.person(5, 2));
        Check.due("the last place", 1 << 3 | 1 << 7, x.lies(3));
        Check.throwsNoSuch("thing 8", () -> x.thing(8, 0));
        Check.throwsNoSuch("person 6", () -> x.person(6, 0));
        Check.due("place 4", Check.NONE, x.lies(4));
    }

    private static void bookText() {
        bookOfFourHundredBytes();
        bookOfFortyLines();
        marksOfAnAskingAreUnlike();
        daysOfABook();
    }

    // "A BOOK is a text of at most 400 bytes"
    private static void bookOfFourHundredBytes() {
        book("", Check.NONE);
        book(blanks(400), Check.NONE);
        badBook(blanks(400) + "| ", 1);
        book(blanks(394) + "day 1;", Check.NONE);
        badBook(blanks(395) + "day 1|;", 1);
        badBook("day 1;" + blanks(394) + "|day 1;", 1);
        badBook("day |0;" + blanks(900), 2);
    }

    // "{ LINE ; }, 40 at most"; "a 41st LINE of a BOOK (at the LINE's first WORD)"; "of one TOKEN the least"
    private static void bookOfFortyLines() {
        String forty = "day 1;".repeat(40);
        NounFast x = Check.with(SMALL);
        Check.due("forty lines", Check.NONE, Check.book(x, 0, forty));
        Check.due("all are lived", 40, x.told(1));
        badBook(forty + "|day 1;", 4);
        badBook(forty + "|day 0;", 4);
        badBook(forty + "|day", 4);
        badBook(forty + "|a goes q;", 4);
        badBook(forty + "|a 1", 4);
        badBook(forty + "|x goes q;", 3);
        badBook(forty + "|t goes q;", 3);
        badBook(forty + "|;", 1);
        badBook(forty + "|goes", 1);
        badBook("day 1;".repeat(39) + "day |61;day 1;", 2);
    }

    // "'asks' PERSON MARK { MARK } (unlike)"; "a MARK of one asking told again (at the MARK)"
    private static void marksOfAnAskingAreUnlike() {
        badBook("a asks b|;", 1);
        book("a asks b m;", Check.NONE);
        badBook("a asks b m |m;", 3);
        badBook("a asks b m n |m;", 3);
        badBook("a asks b m n |n;", 3);
        book("a asks b m;a asks b m;", Check.NONE);
        NounFast x = Check.with(Check.fullCity());
        Check.due("ten marks, elsewhere", 0, Check.book(x, 0, "ha asks hb ma mb mc md me mf mg mh mi mj;"));
        Check.due("elsewhere", 11, x.told(0));
        Check.due("ten marks, in one place", Check.NONE, Check.book(x, 0, "ha asks he mj mi mh mg mf me md mc mb ma;"));
        String again = "ha asks he mj mi mh mg mf me md mc mb ma |mj;";
        Check.due("one again", -2 - Check.place(again), Check.book(x, 0, Check.unmarked(again)));
        Check.due("its kind", 3, x.fault());
    }

    // "'day' N (1 to 60)"
    private static void daysOfABook() {
        for (int n = 0; n < 1000; n++) {
            NounFast x = new NounFast();
            boolean isTold = n >= 1 && n <= 60;
            Check.due("day " + n, isTold ? Check.NONE : -2 - 4, Check.book(x, 0, "day " + n + ";"));
            Check.due("fault() of day " + n, isTold ? 0 : 2, x.fault());
            Check.due("told(2) of day " + n, isTold ? n : Check.NONE, x.told(2));
        }
    }

    private static void sentenceText() {
        sentenceOfTwoHundredBytes();
        twentyOnes();
        eightWithin();
    }

    // "A SENTENCE is a text of at most 200 bytes"
    private static void sentenceOfTwoHundredBytes() {
        badSentence("|", 1);
        badSentence(blanks(200) + "|", 1);
        badSentence(blanks(200) + "| ", 1);
        sentence("lone" + blanks(196), 1);
        badSentence("lone" + blanks(196) + "| ", 1);
        sentence(blanks(196) + "lone", 1);
        badSentence(blanks(197) + "lon|e", 1);
        badSentence("lone |lone" + blanks(900), 1);
        badSentence("has |p" + blanks(900), 3);
    }

    // "20 ONES"; "a 21st ONE ... (at its first TOKEN)"
    private static void twentyOnes() {
        sentence("lone" + " or lone".repeat(19), 20);
        badSentence("lone" + " or lone".repeat(19) + " or |lone", 4);
        badSentence("lone" + " or lone".repeat(19) + " or |has", 4);
        badSentence("lone" + " or lone".repeat(19) + " or |(", 4);
        badSentence("lone" + " or lone".repeat(19) + " or |not", 4);
        // Of one token the least: here it can't come at all.
        badSentence("lone" + " or lone".repeat(19) + " or |", 1);
        badSentence("lone" + " or lone".repeat(19) + " or |;", 1);
        badSentence("lone" + " or lone".repeat(19) + " or |and", 1);
        badSentence("lone" + " or lone".repeat(19) + " or |m", 1);
        // Each 'not' and each bracket is a one, too.
        sentence("not lone" + " or not lone".repeat(9), 20);
        badSentence("not lone" + " or not lone".repeat(9) + " or |not lone", 4);
        badSentence("lone or " + "not lone or ".repeat(9) + "not |lone", 4);
        sentence("(lone)" + "or(lone)".repeat(9), 20);
        badSentence("lone or " + "(lone)or".repeat(9) + "(|lone)", 4);
    }

    // "8 within one another"; "a ninth within (at its first TOKEN)"
    private static void eightWithin() {
        sentence("not ".repeat(7) + "lone", 8);
        badSentence("not ".repeat(8) + "|lone", 4);
        badSentence("not ".repeat(8) + "|not lone", 4);
        sentence("(".repeat(7) + "lone" + ")".repeat(7), 8);
        badSentence("(".repeat(8) + "|lone" + ")".repeat(8), 4);
        badSentence("(".repeat(8) + "|(lone", 4);
        sentence("(not ".repeat(3) + "(lone" + ")".repeat(4), 8);
        badSentence("(not ".repeat(4) + "|lone" + ")".repeat(4), 4);
        // Those beside one another are not within one another.
        sentence("(".repeat(7) + "lone" + ")".repeat(7) + "or " + "not ".repeat(7) + "lone", 16);
        sentence("(".repeat(7) + "lone or lone and lone" + ")".repeat(7), 10);
        badSentence("(".repeat(7) + "lone or not |lone" + ")".repeat(7), 4);
        // Of one token the least.
        badSentence("(".repeat(8) + "|)", 1);
        badSentence("not ".repeat(8) + "|or", 1);
        badSentence("not ".repeat(8) + "|", 1);
    }

    private static void faults() {
        theKindOfTheLatest();
        theFirstAlongTheText();
        theEnd();
        whatCannotCome();
        namesNotToldOrOfAnotherSort();
    }

    // 5: "The kind of the FAULT of the latest city(), book() or sentence() ..; 0 without one and ahead of any."
    private static void theKindOfTheLatest() {
        NounFast x = new NounFast();
        Check.due("ahead of any", 0, x.fault());
        Check.due("another lives", -1000, x.book(2));
        Check.due("ahead of any", 0, x.fault());
        Check.due("a city of kind 4", -1 - 32, Check.city(x, "place a;place b;place c;place d;place e;"));
        Check.due("a city's kind", 4, x.fault());
        Check.due("another lives", -1000, x.book(2));
        Check.due("leaves it", 4, x.fault());
        Check.due("spoken is no text of a fault", Check.NONE, Check.spoken(x, 0));
        Check.due("leaves it", 4, x.fault());
        Check.due("a sentence of kind 1", -1, Check.sentence(x, ""));
        Check.due("a sentence's kind", 1, x.fault());
        Check.due("a book of kind 2", -2 - 4, Check.book(x, 0, "day 0;"));
        Check.due("a book's kind", 2, x.fault());
        Check.due("a book of kind 3", -2, Check.book(x, 1, "x"));
        Check.due("a book's kind", 3, x.fault());
        Check.due("a book without one", Check.NONE, Check.book(x, 0, ""));
        Check.due("without one", 0, x.fault());
        Check.due("a city of kind 2", -1 - 5, Check.city(x, "fast 7;"));
        Check.due("a city's kind", 2, x.fault());
        Check.due("a sentence without one", 1, Check.sentence(x, "lone"));
        Check.due("without one", 0, x.fault());
        Check.due("a sentence of kind 3", -1 - 4, Check.sentence(x, "has m"));
        Check.due("a sentence's kind", 3, x.fault());
        Check.due("a city without one", 0, Check.city(x, ""));
        Check.due("without one", 0, x.fault());
        Check.due("a city of kind 3", -1 - 8, Check.city(x, "thing t p;"));
        Check.due("a book that is wrong", 6, Check.book(x, 0, "day 60;".repeat(7)));
        Check.due("has no fault", 0, x.fault());
    }

    // "FAULTS, the first along the text"
    private static void theFirstAlongTheText() {
        badCity("fine |0;mite 10;", 2);
        badCity("mark m;mark |m;fine 0;", 3);
        badCity("fine 3;|x;fine 0;", 1);
        badCity("fine |21 x", 2);
        badCity("is |t m;", 3);
        badBook("|x goes", 3);
        badBook("a goes |t;day 0;", 3);
        badBook("day |0;x goes p;", 2);
        badSentence("has |p and and", 3);
        badSentence("lone |m has p", 1);
    }

    // "the end: how many bytes there are"
    private static void theEnd() {
        badCity("place|", 1);
        badCity("place p|", 1);
        badCity("place p \n |", 1);
        badCity("place p;thing t|", 1);
        badCity("place p;thing t p|", 1);
        badCity("place p;person a p|", 1);
        badCity("place p;person a p 1|", 1);
        badCity("place p;person a p 1 foreign|", 1);
        badCity(SMALL + "is|", 1);
        badCity(SMALL + "is t|", 1);
        badCity(SMALL + "is t m|", 1);
        badCity(SMALL + "knows a m  |", 1);
        badCity("fine|", 1);
        badCity("fine 3|", 1);
        badBook("a|", 1);
        badBook("a goes|", 1);
        badBook("a goes q|", 1);
        badBook("a asks b|", 1);
        badBook("a asks b m|", 1);
        badBook("day|", 1);
        badBook("day 1;day 1  |", 1);
        badSentence("|", 1);
        badSentence("not|", 1);
        badSentence("(lone|", 1);
        badSentence("lone or|", 1);
        badSentence("lone and |", 1);
        badSentence("has|", 1);
        badSentence("marks|", 1);
        badSentence("marks <|", 1);
    }

    // "1 no TOKEN, or one that can't come (at it ..)"
    private static void whatCannotCome() {
        badCity("|;", 1);
        badCity("|p;", 1);
        badCity("|3;", 1);
        badCity("|day 1;", 1);
        badCity("place |;", 1);
        badCity("place |3;", 1);
        badCity("place p |q;", 1);
        badCity("place p;thing t |;", 1);
        badCity("place p;thing t |3;", 1);
        badCity("place p;thing t p |p;", 1);
        badCity(SMALL + "is |3 m;", 1);
        badCity(SMALL + "is t |3;", 1);
        badCity(SMALL + "is t m |n;", 1);
        badCity("fine |x;", 1);
        badCity("fine |;", 1);
        badCity("fine 3 |3;", 1);
        badCity("fine |-3;", 1);
        badBook("|;", 1);
        badBook("|3;", 1);
        badBook("|fine 3;", 1);
        badBook("a|;", 1);
        badBook("a |b;", 1);
        badBook("a |day 1;", 1);
        badBook("a |has m;", 1);
        badBook("a goes |3;", 1);
        badBook("a goes q |q;", 1);
        badBook("a learns b |m;", 1);
        badBook("a asks b |3;", 1);
        badBook("a asks b m |and n;", 1);
        badBook("day |a;", 1);
        badBook("day 1 |1;", 1);
        badSentence("|3", 1);
        badSentence("|m", 1);
        badSentence("|or lone", 1);
        badSentence("|) lone", 1);
        badSentence("|foreign", 1);
        badSentence("lone |lone", 1);
        badSentence("lone |)", 1);
        badSentence("(|)", 1);
        badSentence("(lone |lone)", 1);
        badSentence("not |and", 1);
        badSentence("has |3", 1);
        badSentence("carried |m", 1);
        badSentence("marks |3", 1);
        badSentence("marks |( 3", 1);
        badSentence("marks < |m", 1);
        badSentence("marks < |= 3", 1);
        badSentence("marks < 3 |4", 1);
    }

    // "3 a NAME ... not told, or of another sort"
    private static void namesNotToldOrOfAnotherSort() {
        for (String name : new String[] {"x", "m", "t", "a"}) {
            badCity(SMALL + "thing y |" + name + ";", 3);
            badCity(SMALL + "person y |" + name + " 1;", 3);
            badBook("a goes |" + name + ";", 3);
            badSentence("at |" + name, 3);
        }
        for (String name : new String[] {"x", "p", "m", "a"}) {
            badCity(SMALL + "is |" + name + " m;", 3);
            badBook("a names |" + name + ";", 3);
            badBook("a points |" + name + ";", 3);
            badBook("a puts |" + name + ";", 3);
        }
        for (String name : new String[] {"x", "p", "t", "a"}) {
            badCity(SMALL + "is t |" + name + ";", 3);
            badCity(SMALL + "knows a |" + name + ";", 3);
            badBook("a asks b |" + name + ";", 3);
            badBook("a asks b m |" + name + ";", 3);
            badSentence("has |" + name, 3);
        }
        for (String name : new String[] {"x", "p", "m", "t"}) {
            badCity(SMALL + "knows |" + name + " m;", 3);
            badBook("|" + name + " goes q;", 3);
            badBook("a asks |" + name + " m;", 3);
            badBook("a learns |" + name + ";", 3);
            badSentence("with |" + name, 3);
        }
        // A name that is told only later is not told yet.
        badCity("thing t |p;place p;", 3);
        badCity("place p;thing t p;is t |m;mark m;", 3);
    }
}
