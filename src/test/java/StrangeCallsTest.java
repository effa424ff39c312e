import java.lang.reflect.InvocationTargetException;
import java.lang.reflect.Method;
import java.lang.reflect.Modifier;
import java.util.ArrayList;
import java.util.Comparator;
import java.util.List;
import java.util.NoSuchElementException;
import java.util.Random;

/** Whatever is called with whatever arguments, nothing is thrown but what the document names, and where it names it. */
public final class StrangeCallsTest {
    private static final String[] PIECES = {"place ", "mark ", "thing ", "person ", "is ", "knows ", "fine ", "mite ",
        "wage ", "fast ", "foreign ", "goes ", "asks ", "names ", "points ", "puts ", "learns ", "day ", "or ", "and ",
        "not ", "carried ", "lone ", "has ", "at ", "with ", "marks ", "named ", "number ", "p ", "q ", "m ", "n ",
        "t ", "u ", "a ", "b ", ";", ";", ";", "<", "=", ">", "(", ")", ".", "1", "5 ", "60 ", "0 ", "999", "abcdefgh"};
    private static final String CITY = "place p;place q;mark m;mark n;thing t p;thing u p;is t m;is u n;"
        + "person a p 5;person b p 9;knows b m;fast 1;";

    public static void main(String[] args) throws IllegalAccessException {
        List<Method> face = new ArrayList<>();
        for (Method method : NounFast.class.getDeclaredMethods()) {
            if (Modifier.isPublic(method.getModifiers())) {
                face.add(method);
            }
        }
        face.sort(Comparator.comparing(Method::getName));
        Check.due("methods of the face", 42, face.size());
        // With the calls that feed it, an object has less than 512 of them.
        Random random = new Random(1);
        for (int run = 0; run < 800; run++) {
            NounFast x = run % 3 == 0 ? new NounFast() : Check.with(CITY);
            for (int call = 0; call < 180; call++) {
                if (random.nextInt(8) == 0) {
                    feedPieces(x, random);
                }
                strangeCall(x, face.get(random.nextInt(face.size())), random);
            }
        }
        Check.finish();
    }

    private static void feedPieces(NounFast x, Random random) {
        StringBuilder s = new StringBuilder();
        for (int i = random.nextInt(30); i > 0; i--) {
            s.append(PIECES[random.nextInt(PIECES.length)]);
        }
        x.end(0);
        Check.text(x, random.nextInt(10) == 0 ? CITY : s.toString());
    }

    private static int strangeNumber(Random random) {
        switch (random.nextInt(10)) {
            case 0:
                return random.nextInt();
            case 1:
                return random.nextBoolean() ? Integer.MIN_VALUE : Integer.MAX_VALUE;
            case 2:
                return random.nextInt(70) - 3;
            default:
                return random.nextInt(4) - 1;
        }
    }

    private static void strangeCall(NounFast x, Method method, Random random) throws IllegalAccessException {
        Object[] arguments = new Object[method.getParameterCount()];
        for (int i = 0; i < arguments.length; i++) {
            arguments[i] = strangeNumber(random);
        }
        try {
            method.invoke(x, arguments);
        } catch (InvocationTargetException thrown) {
            String name = method.getName();
            boolean named = name.equals("thing") || name.equals("person") || name.equals("slip");
            boolean due = named && thrown.getCause() instanceof NoSuchElementException;
            Check.due(name + " threw " + thrown.getCause(), true, due);
        }
    }
}
