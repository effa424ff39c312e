import java.nio.charset.StandardCharsets;
import java.util.NoSuchElementException;

/** What the tests share: texts put on the tape, answers compared, a failing end. */
final class Check {
    static final int NONE = NounFast.NONE;

    private static int wrong = 0;

    private Check() {
    }

    /** A call that may throw. */
    interface Call {
        int answer();
    }

    static void due(String what, long want, long got) {
        if (want != got) {
            wrong++;
            System.out.println(what + " answered " + got + ", due is " + want);
        }
    }

    static void due(String what, boolean want, boolean got) {
        due(what, want ? 1 : 0, got ? 1 : 0);
    }

    static void throwsNoSuch(String what, Call call) {
        try {
            int got = call.answer();
            wrong++;
            System.out.println(what + " answered " + got + ", due is a NoSuchElementException");
        } catch (NoSuchElementException expected) {
            // As it should be.
        }
    }

    static void bytes(NounFast x, byte[] bytes) {
        due("tape is empty", 0, x.count(8));
        for (int i = 0; i < bytes.length; i += 20) {
            int[] n = new int[5];
            for (int j = 0; j < 20; j++) {
                int b = i + j < bytes.length ? bytes[i + j] & 255 : 0;
                n[j / 4] = n[j / 4] << 8 | b;
            }
            due("feed", i + 20, x.feed(n[0], n[1], n[2], n[3], n[4]));
        }
        due("end", true, x.end(bytes.length));
    }

    static void text(NounFast x, String text) {
        bytes(x, text.getBytes(StandardCharsets.ISO_8859_1));
    }

    static void bytes(NounFast x, int... values) {
        byte[] bytes = new byte[values.length];
        for (int i = 0; i < values.length; i++) {
            bytes[i] = (byte) values[i];
        }
        bytes(x, bytes);
    }

    static int city(NounFast x, String text) {
        text(x, text);
        int answer = x.city();
        due("the tape is empty behind city()", 0, x.count(8));
        return answer;
    }

    static NounFast with(String city) {
        NounFast x = new NounFast();
        if (city(x, city) < 0) {
            due(city + " is a city, fault", 0, x.fault());
        }
        return x;
    }

    static int book(NounFast x, int lives, String text) {
        text(x, text);
        int answer = x.book(lives);
        due("the tape is empty behind book()", 0, x.count(8));
        return answer;
    }

    static int sentence(NounFast x, String text) {
        text(x, text);
        int answer = x.sentence();
        due("the tape is empty behind sentence()", 0, x.count(8));
        return answer;
    }

    static int spoken(NounFast x, int... values) {
        bytes(x, values);
        int answer = x.spoken();
        due("the tape is empty behind spoken()", 0, x.count(8));
        return answer;
    }

    /** A text told with a '|' where its fault is: the text alone. */
    static String unmarked(String marked) {
        return marked.replace("|", "");
    }

    /** Where the '|' stands. */
    static int place(String marked) {
        return marked.indexOf('|');
    }

    /** As many of each sort as there may be: places pa.., marks ma.., things ta.., persons ha.., the i-th in place i % 4. */
    static String fullCity() {
        StringBuilder s = new StringBuilder();
        for (int i = 0; i < 4; i++) {
            s.append("place p").append(letter(i)).append(';');
        }
        for (int i = 0; i < 10; i++) {
            s.append("mark m").append(letter(i)).append(';');
        }
        for (int i = 0; i < 8; i++) {
            s.append("thing t").append(letter(i)).append(" p").append(letter(i % 4)).append(';');
        }
        for (int i = 0; i < 6; i++) {
            s.append("person h").append(letter(i)).append(" p").append(letter(i % 4)).append(" 5;");
        }
        return s.toString();
    }

    static char letter(int i) {
        return (char) ('a' + i);
    }

    /** Lets days go by till it is that day. */
    static void passTo(NounFast x, int day) {
        while (x.now(0) < day) {
            x.days(Math.min(60, day - x.now(0)));
        }
    }

    /** The latest phrase, byte by byte. */
    static String phrase(NounFast x) {
        StringBuilder s = new StringBuilder();
        for (int i = 0; x.byteAt(i) != NONE; i++) {
            s.append((char) x.byteAt(i));
        }
        return s.toString();
    }

    static void same(String what, String want, String got) {
        if (!want.equals(got)) {
            wrong++;
            System.out.println(what + " answered " + got + ", due is " + want);
        }
    }

    static void finish() {
        if (wrong > 0) {
            System.exit(1);
        }
    }
}
