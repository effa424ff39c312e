import java.lang.reflect.Constructor;
import java.lang.reflect.Field;
import java.lang.reflect.Member;
import java.lang.reflect.Method;
import java.lang.reflect.Modifier;
import java.util.Arrays;
import java.util.NoSuchElementException;
import java.util.Set;
import java.util.TreeSet;
import java.util.stream.Collectors;

/** The public face, as the document writes it, and nothing beside it (LANGUAGE.md, rules 1, 5 and 11). */
public final class FaceTest {
    private static final String[] METHODS = {"int feed 5", "boolean end 1", "int city 0", "int fault 0", "int thing 2",
        "int person 2", "int lies 1", "int now 1", "int go 2", "int ask 3", "int name 2", "int point 2", "int put 2",
        "int learn 2", "int days 1", "int undo 0", "int fits 3", "int say 2", "int saying 0", "int twin 2",
        "int slip 3", "int cover 1", "int covering 0", "int spoken 0", "int surely 0", "int show 0", "int cant 4",
        "int canting 0", "int rest 1", "int rested 1", "int news 1", "int phrase 1", "int byteAt 1", "int drawn 2",
        "int odds 3", "int book 1", "int told 1", "int sentence 0", "int said 1", "boolean image 1",
        "boolean restore 1", "int count 1"};
    private static final Set<String> THROWING = Set.of("thing", "person", "slip");

    public static void main(String[] args) {
        classAndConstructor();
        constants();
        methods();
        noOtherMembers();
        for (Class<?> inside : NounFast.class.getDeclaredClasses()) {
            Check.due(inside.getName() + " is static", true, Modifier.isStatic(inside.getModifiers()));
            fewFieldsAndParameters(inside);
        }
        fewFieldsAndParameters(NounFast.class);
        Check.due("at most twelve classes", true, NounFast.class.getDeclaredClasses().length < 12);
        Check.finish();
    }

    private static void classAndConstructor() {
        int modifiers = NounFast.class.getModifiers();
        Check.due("the class is public", true, Modifier.isPublic(modifiers));
        Check.due("the class is final", true, Modifier.isFinal(modifiers));
        Constructor<?>[] made = NounFast.class.getDeclaredConstructors();
        Check.due("constructors", 1, made.length);
        Check.due("it is public", true, Modifier.isPublic(made[0].getModifiers()));
        Check.due("what it takes", 0, made[0].getParameterCount());
    }

    private static void constants() {
        Set<String> told = new TreeSet<>();
        for (Field field : NounFast.class.getDeclaredFields()) {
            if (!Modifier.isPrivate(field.getModifiers())) {
                told.add(Modifier.toString(field.getModifiers()) + " " + field.getType() + " " + field.getName());
            }
        }
        Check.same("constants", "[public static final int NONE]", told.toString());
    }

    private static void methods() {
        Set<String> told = new TreeSet<>();
        for (Method method : NounFast.class.getDeclaredMethods()) {
            if (Modifier.isPublic(method.getModifiers())) {
                told.add(method.getReturnType() + " " + method.getName() + " " + method.getParameterCount());
                callOfTheFace(method);
            }
        }
        Check.same("methods", new TreeSet<>(Arrays.asList(METHODS)).toString(), told.toString());
    }

    private static void callOfTheFace(Method method) {
        String name = method.getName();
        Check.due(name + " is the object's", false, Modifier.isStatic(method.getModifiers()));
        for (Class<?> type : method.getParameterTypes()) {
            Check.due(name + " takes numbers", true, type == int.class);
        }
        String throwing = THROWING.contains(name) ? NoSuchElementException.class.getName() : "";
        Check.same(name + " throws", throwing,
            Arrays.stream(method.getExceptionTypes()).map(Class::getName).collect(Collectors.joining(" ")));
    }

    private static void noOtherMembers() {
        Set<String> face = Arrays.stream(METHODS).map(m -> m.split(" ")[1]).collect(Collectors.toSet());
        for (Method method : NounFast.class.getDeclaredMethods()) {
            if (!Modifier.isPublic(method.getModifiers())) {
                Check.due(method.getName() + " is private", true, isPrivate(method));
                Check.due(method.getName() + " bears no public one's name", false, face.contains(method.getName()));
            }
        }
        for (Class<?> inside : NounFast.class.getDeclaredClasses()) {
            Check.due(inside.getName() + " is private", true, Modifier.isPrivate(inside.getModifiers()));
        }
    }

    private static boolean isPrivate(Member member) {
        return Modifier.isPrivate(member.getModifiers()) || member.isSynthetic();
    }

    private static void fewFieldsAndParameters(Class<?> one) {
        int fields = 0;
        for (Field field : one.getDeclaredFields()) {
            if (Modifier.isStatic(field.getModifiers())) {
                Check.due(one + " " + field.getName() + " is final", true, Modifier.isFinal(field.getModifiers()));
            } else {
                fields++;
            }
        }
        Check.due(one + " has at most twenty fields", true, fields <= 20);
        for (Method method : one.getDeclaredMethods()) {
            Check.due(method + " takes at most seven", true, method.getParameterCount() <= 7);
        }
    }
}
