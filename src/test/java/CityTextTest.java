/** Promises 4 (city) and 5 (fault), with the tokens and faults of a city's text. */
public final class CityTextTest {
    public static void main(String[] args) {
        cities();
        tokens();
        names();
        numbers();
        twice();
        tooMany();
        tooLong();
        faultsLeaveTheCity();
        aNewCityIsNew();
        Check.finish();
    }

    private static void good(String text, int lines) {
        NounFast x = new NounFast();
        Check.due(text, lines, Check.city(x, text));
        Check.due(text + " fault()", 0, x.fault());
    }

    private static void bad(String text, int place, int kind) {
        NounFast x = new NounFast();
        Check.due(text, -1 - place, Check.city(x, text));
        Check.due(text + " fault()", kind, x.fault());
    }

    private static void cities() {
        good("", 0);
        good(" \n ", 0);
        good("place p;", 1);
        good(" place\np ; thing t p ;mark m;is t m;person a p 99 foreign;knows a m;fine 1;mite 0;wage 9;fast 0; ", 10);
        good("place p;person a p 0;person b p 007;", 3);
        good("fast 6;fine 20;mite 9;wage 0;", 4);
        good("mark abcdefg;", 1);
        good("mark the;mark one;", 2);
        good("mark xlace;mark plac;mark placex;mark s;mark i;mark isx;mark xas;mark ay;mark ot;", 9);
    }

    private static void tokens() {
        bad("place", 5, 1);
        bad("place ", 6, 1);
        bad("place p", 7, 1);
        bad("place p \n", 9, 1);
        bad(";", 0, 1);
        bad("place p;;", 8, 1);
        bad("p;", 0, 1);
        bad("foreign;", 0, 1);
        bad("goes p;", 0, 1);
        bad("place 1;", 6, 1);
        bad("place p p;", 8, 1);
        bad("place p.", 7, 1);
        bad("Place p;", 0, 1);
        bad("place\tp;", 5, 1);
        bad("place abcdefgh;", 6, 1);
        bad("place p1;", 6, 1);
        bad("place 1p;", 6, 1);
        bad("placep;", 0, 1);
        bad("fine3;", 0, 1);
        bad("fine 0003;", 5, 1);
        bad("fine ;", 5, 1);
        bad("fine x;", 5, 1);
        bad("fine 3 3;", 7, 1);
        bad("place p;person a p;", 18, 1);
        bad("place p;person a p 1 local;", 21, 1);
        bad("place p;person a p 1 foreign foreign;", 29, 1);
        bad("place p;person a p foreign;", 19, 1);
        bad("place p<", 7, 1);
        bad("mark m;" + (char) 200, 7, 1);
        bad("mark m;" + (char) 0, 7, 1);
    }

    private static void names() {
        for (String word : ("place mark thing is person foreign knows fine mite wage fast goes asks names points puts"
                + " learns day or and not carried lone has at with marks named number").split(" ")) {
            bad("mark " + word + ";", 5, 1);
            bad("place p;thing t " + word + ";", 16, 1);
        }
        bad("thing t p;", 8, 3);
        bad("thing t t;", 8, 3);
        bad("mark p;thing t p;", 15, 3);
        bad("place p;is p p;", 11, 3);
        bad("place p;thing t p;is t p;", 23, 3);
        bad("place p;thing t p;is t m;mark m;", 23, 3);
        bad("place p;thing t p;mark m;is m t;", 28, 3);
        bad("knows a m;", 6, 3);
        bad("place p;thing t p;mark m;knows t m;", 31, 3);
        bad("person a p 1;", 9, 3);
    }

    private static void numbers() {
        bad("fine 0;", 5, 2);
        bad("fine 21;", 5, 2);
        bad("mite 10;", 5, 2);
        bad("wage 10;", 5, 2);
        bad("fast 7;", 5, 2);
        bad("fast 999;", 5, 2);
        bad("place p;person a p 100;", 19, 2);
    }

    private static void twice() {
        bad("place p;place p;", 14, 3);
        bad("place p;mark p;", 13, 3);
        bad("place p;thing p p;", 14, 3);
        bad("place p;person p p 1;", 15, 3);
        bad("place p;thing t p;mark m;is t m;is t m;", 37, 3);
        bad("place p;person a p 1;mark m;knows a m;knows a m;", 46, 3);
        bad("fine 3;fine 4;", 7, 3);
        bad("mite 3;mite x", 7, 3);
        bad("wage 3;wage 99;", 7, 3);
        bad("fast 3;wage 3;fast 3;", 14, 3);
        good("place p;thing t p;thing u p;mark m;mark n;is t m;is t n;is u m;", 8);
    }

    private static String many(String sort, int n, String rest) {
        StringBuilder s = new StringBuilder();
        for (int i = 0; i < n; i++) {
            s.append(sort).append(' ').append((char) ('a' + i)).append(rest).append(';');
        }
        return s.toString();
    }

    private static void tooMany() {
        good(many("place", 4, ""), 4);
        bad(many("place", 5, ""), 32, 4);
        good(many("mark", 10, ""), 10);
        bad(many("mark", 11, ""), 70, 4);
        good("place pp;" + many("thing", 8, " pp"), 9);
        bad("place pp;" + many("thing", 9, " pp"), 9 + 88, 4);
        good("place pp;" + many("person", 6, " pp 1"), 7);
        bad("place pp;" + many("person", 7, " pp 1"), 9 + 84, 4);
        // The fault at the line's first word is ahead of what is wrong behind it.
        bad(many("place", 4, "") + "place 1", 32, 4);
        bad(many("place", 4, "") + "place", 32, 4);
    }

    private static void tooLong() {
        String blanks = " ".repeat(940);
        good(blanks.substring(0, 900), 0);
        bad(blanks.substring(0, 901), 900, 1);
        good(blanks.substring(0, 892) + "place p;", 1);
        bad("place p;" + blanks.substring(0, 893), 900, 1);
        bad(blanks.substring(0, 893) + "place p;", 900, 1);
        // A token that begins ahead of the end of the room is read whole.
        bad(blanks.substring(0, 890) + "mark abcdefgh;", 895, 1);
        bad(blanks.substring(0, 890) + "mark abcdefg;", 900, 1);
        bad(blanks.substring(0, 892) + "mark m;mark m;", 900, 1);
        bad(blanks.substring(0, 897) + "fin 3;", 897, 1);
        bad(blanks.substring(0, 895) + "fine 21;", 900, 1);
        bad(blanks.substring(0, 894) + "fine 21;", 899, 2);
        bad(blanks.substring(0, 900) + "zzzzzzzzz", 900, 1);
        bad("mark m;mark m;" + blanks.substring(0, 900), 12, 3);
    }

    private static void faultsLeaveTheCity() {
        NounFast x = Check.with("place p;thing t p;");
        Check.due("a fault", -1, Check.city(x, "x"));
        Check.due("the kind", 1, x.fault());
        Check.due("the city stays", 1, x.count(2));
        Check.due("a fault of another kind", -6, Check.city(x, "fine 0;"));
        Check.due("the kind", 2, x.fault());
        Check.due("another lives", -1000, x.book(2));
        Check.due("leaves the kind", 2, x.fault());
        Check.due("a book", Check.NONE, Check.book(x, 0, ""));
        Check.due("without a fault", 0, x.fault());
        Check.due("a book's fault", -2, Check.book(x, 0, "t"));
        Check.due("its kind", 3, x.fault());
        Check.due("a sentence", 1, Check.sentence(x, "lone"));
        Check.due("without a fault", 0, x.fault());
        Check.due("a sentence's fault", -1, Check.sentence(x, ""));
        Check.due("its kind", 1, x.fault());
        Check.due("a city", 0, Check.city(x, ""));
        Check.due("without a fault", 0, x.fault());
    }

    private static void aNewCityIsNew() {
        String text = "place p;thing t p;mark m;is t m;person a p 5;person b p 9;fast 1;thing u p;";
        NounFast x = Check.with(text);
        Check.due("ask", 0, x.ask(0, 1, 1));
        Check.due("days", 1, x.days(1));
        Check.due("name", 0, x.name(1, 1));
        Check.due("sentence", 1, Check.sentence(x, "carried"));
        Check.due("guesses", 1, x.now(4));
        Check.due("fines", 1, x.now(5));
        Check.due("the city again", 8, Check.city(x, text));
        Check.due("day", 0, x.now(0));
        Check.due("coins", 14, x.now(2));
        Check.due("carried", 0, x.now(3));
        Check.due("guesses", 0, x.now(4));
        Check.due("fines", 0, x.now(5));
        Check.due("named", 0, x.thing(1, 3));
        Check.due("no sentence", Check.NONE, x.said(Check.NONE));
        Check.due("nothing to undo", Check.NONE, x.undo());
    }
}
