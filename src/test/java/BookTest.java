/** Promises 37 (book) and 38 (told), with the faults of a book's text. */
public final class BookTest {
    private static final int NONE = Check.NONE;
    private static final String CITY = "place p;place q;mark m;mark n;thing t p;thing u p;thing v q;is t m;is u m;is u n;"
        + "person a p 5;person b p 9 foreign;person c q 0;knows b m;knows b n;fast 1;wage 2;fine 8;mite 3;";

    public static void main(String[] args) {
        goodBooks();
        wrongLines();
        judgedOrLived();
        otherLives();
        faults();
        manyLines();
        manyMarks();
        tooLong();
        toldStays();
        Check.finish();
    }

    private static void told(NounFast x, int why, int lines, int day, int carried) {
        Check.due("told(0)", why, x.told(0));
        Check.due("told(1)", lines, x.told(1));
        Check.due("told(2)", day, x.told(2));
        Check.due("told(3)", carried, x.told(3));
        Check.due("told(4)", NONE, x.told(4));
        Check.due("told(-1)", NONE, x.told(-1));
    }

    private static void goodBooks() {
        NounFast x = Check.with(CITY);
        Check.due("ahead of any", NONE, x.told(0));
        Check.due("no lines", NONE, Check.book(x, 0, " \n"));
        told(x, 0, 0, 0, 0);
        Check.due("a book", NONE, Check.book(x, 1,
            "a asks b n m;a learns b;day 1;b names t;a puts u;a points u;\na goes q ;a puts u;c asks a n m;"));
        told(x, 0, 9, 1, 3);
        Check.due("who carries u", 2, x.thing(1, 1));
        Check.due("coins", 4, x.person(0, 1));
        Check.due("marks", 1, x.person(0, 2));
    }

    private static void wrong(String book, int line, int why) {
        for (int lives = 0; lives < 2; lives++) {
            NounFast x = Check.with(CITY);
            Check.due(book, line, Check.book(x, lives, book));
            Check.due(book + " fault()", 0, x.fault());
            Check.due(book + " told(0)", why, x.told(0));
            Check.due(book + " told(1)", line, x.told(1));
        }
    }

    private static void wrongLines() {
        wrong("a goes p;", 0, 1);
        wrong("a goes q;a goes q;", 1, 1);
        wrong("a asks a m;", 0, 11);
        wrong("a asks c m;", 0, 11);
        wrong("a names t;b names u;a asks b m;", 2, 12);
        wrong("a names v;", 0, 21);
        wrong("day 1;a names t;", 1, 22);
        wrong("a points v;", 0, 31);
        wrong("day 1;c points v;", 1, 32);
        wrong("a puts t;", 0, 41);
        wrong("a learns a;", 0, 51);
        wrong("a learns c;", 0, 51);
        wrong("b learns a;", 0, 52);
        wrong("day 60;day 60;day 60;day 60;day 60;day 60;day 41;", 6, 61);
        wrong("day 60;day 60;day 60;day 60;day 60;day 60;day 40;day 1;a goes p;", 7, 61);
        wrong("a goes p;a goes p;a goes q;", 0, 1);
    }

    private static void judgedOrLived() {
        NounFast x = Check.with(CITY);
        String book = "day 2;a names t;a names u;b names u;day 5;";
        Check.due("judged", 3, Check.book(x, 0, book));
        told(x, 21, 3, 2, 3);
        Check.due("the day stays", 0, x.now(0));
        Check.due("all lies", 3, x.lies(0));
        Check.due("nothing to undo", NONE, x.undo());
        Check.due("lived", 3, Check.book(x, 1, book));
        told(x, 21, 3, 2, 3);
        Check.due("the day", 2, x.now(0));
        Check.due("carried", 3, x.now(3));
        Check.due("undone", 0, x.undo());
        Check.due("the day", 0, x.now(0));
        Check.due("told stays", 2, x.told(2));
        for (int i = 0; i < 6; i++) {
            x.days(60);
        }
        x.days(39);
        Check.due("too many days", 0, Check.book(x, 1, "day 2;"));
        told(x, 61, 0, 399, 0);
        Check.due("none goes", 399, x.now(0));
        Check.due("the last day", NONE, Check.book(x, 1, "day 1;"));
        Check.due("the end", 400, x.now(0));
    }

    private static void otherLives() {
        NounFast x = Check.with(CITY);
        Check.text(x, "day 1;");
        Check.due("book(2)", -1000, x.book(2));
        Check.due("book(-1)", -1000, x.book(-1));
        Check.due("the tape stays", 6, x.count(8));
        Check.due("ahead of any", NONE, x.told(0));
        Check.due("book(1)", NONE, x.book(1));
        Check.due("the tape is empty", 0, x.count(8));
        Check.due("the day", 1, x.now(0));
    }

    private static void bad(String book, int place, int kind) {
        for (int lives = 0; lives < 2; lives++) {
            NounFast x = Check.with(CITY);
            Check.due(book, -2 - place, Check.book(x, lives, book));
            Check.due(book + " fault()", kind, x.fault());
            Check.due(book + " told(0)", NONE, x.told(0));
            Check.due(book + " day", 0, x.now(0));
            Check.due(book + " undo()", NONE, x.undo());
        }
    }

    private static void faults() {
        bad("day 1", 5, 1);
        bad("day 1;a", 7, 1);
        bad("a goes", 6, 1);
        bad(";", 0, 1);
        bad("1 goes p;", 0, 1);
        bad("goes p;", 0, 1);
        bad("place p;", 0, 1);
        bad("a day 1;", 2, 1);
        bad("a eats t;", 2, 1);
        bad("a b;", 2, 1);
        bad("a has m;", 2, 1);
        bad("a goes 1;", 7, 1);
        bad("a goes p q;", 9, 1);
        bad("a asks b;", 8, 1);
        bad("a asks b m 1;", 11, 1);
        bad("a asks b m and n;", 11, 1);
        bad("a names thing;", 8, 1);
        bad("a names T;", 8, 1);
        bad("day x;", 4, 1);
        bad("day 1000;", 4, 1);
        bad("day 0;", 4, 2);
        bad("day 61;", 4, 2);
        bad("day 1;day 999;", 10, 2);
        bad("x goes p;", 0, 3);
        bad("t goes p;", 0, 3);
        bad("a goes t;", 7, 3);
        bad("a goes x;", 7, 3);
        bad("a asks t m;", 7, 3);
        bad("a asks b t;", 9, 3);
        bad("a asks b m b;", 11, 3);
        bad("a asks b m m;", 11, 3);
        bad("a asks b m n m;", 13, 3);
        bad("a names p;", 8, 3);
        bad("a points m;", 9, 3);
        bad("a puts b;", 7, 3);
        bad("a learns t;", 9, 3);
        // What is wrong is looked at only if all can be read.
        bad("a goes p;a goes x;", 16, 3);
    }

    private static void manyLines() {
        NounFast x = Check.with(CITY);
        String forty = "day 1;".repeat(40);
        Check.due("forty lines", NONE, Check.book(x, 0, forty));
        told(x, 0, 40, 40, 0);
        bad(forty + "day 1;", 240, 4);
        bad(forty + "day", 240, 4);
        bad(forty + "a names", 240, 4);
        bad(forty + "x", 240, 3);
        bad(forty + "t goes p;", 240, 3);
        bad(forty + "names", 240, 1);
        bad(forty + ";", 240, 1);
    }

    private static void manyMarks() {
        NounFast x = Check.with("place p;thing t p;mark a;mark b;mark c;mark d;mark e;mark f;mark g;mark h;mark i;mark j;"
            + "person y p 1;person z p 1;");
        Check.due("all ten marks", NONE, Check.book(x, 0, "y asks z a b c d e f g h i j;"));
        Check.due("one twice", -2 - 29, Check.book(x, 0, "y asks z a b c d e f g h i j a;"));
        Check.due("its kind", 3, x.fault());
        Check.due("a word", -2 - 29, Check.book(x, 0, "y asks z a b c d e f g h i j day;"));
        Check.due("its kind", 1, x.fault());
    }

    private static void tooLong() {
        String blanks = " ".repeat(500);
        NounFast x = Check.with(CITY);
        Check.due("four hundred bytes", NONE, Check.book(x, 0, blanks.substring(0, 394) + "day 1;"));
        bad(blanks.substring(0, 395) + "day 1;", 400, 1);
        bad("day 1;" + blanks, 400, 1);
        bad(blanks.substring(0, 395) + "day 61;", 399, 2);
        bad(blanks.substring(0, 396) + "day 61;", 400, 1);
        bad(blanks.substring(0, 396) + "dayyyyyy", 396, 1);
        bad(blanks.substring(0, 399) + "x", 399, 3);
    }

    private static void toldStays() {
        NounFast x = Check.with(CITY);
        Check.due("a wrong book", 1, Check.book(x, 1, "a names t;a names t;"));
        told(x, 21, 1, 0, 1);
        Check.due("a fault", -2, Check.book(x, 1, "x"));
        told(x, 21, 1, 0, 1);
        Check.due("another lives", -1000, x.book(7));
        told(x, 21, 1, 0, 1);
        x.days(1);
        Check.city(x, "");
        told(x, 21, 1, 0, 1);
        Check.due("a right one", NONE, Check.book(x, 0, "day 3;"));
        told(x, 0, 1, 3, 0);
    }
}
