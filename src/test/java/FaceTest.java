import java.lang.reflect.Constructor;
import java.lang.reflect.Field;
import java.lang.reflect.Method;
import java.lang.reflect.Modifier;
import java.util.Arrays;
import java.util.TreeSet;

/** The public face is the document's, and nothing else can be seen from outside. */
public final class FaceTest {
    private static final String[] FACE = {
        "write/2", "blank/0", "add/0", "addMany/2", "delete/1", "tidy/0", "live/0", "times/2", "spread/1",
        "item/2", "drop/1", "matching/0", "score/1", "ranked/1", "rankedScore/1", "scoring/1",
    };

    public static void main(String[] args) {
        Expect expect = new Expect();
        Class<?> type = WandSearch.class;
        int modifiers = type.getModifiers();
        expect.holds("the class is public and final", Modifier.isPublic(modifiers) && Modifier.isFinal(modifiers));
        expect.holds("no nested class", type.getDeclaredClasses().length == 0);
        methods(expect, type);
        constructors(expect, type);
        fields(expect, type);
        expect.finish();
    }

    private static void methods(Expect expect, Class<?> type) {
        TreeSet<String> seen = new TreeSet<>();
        for (Method method : type.getDeclaredMethods()) {
            if (Modifier.isPrivate(method.getModifiers())) {
                hasANameOfItsOwn(expect, method);
                continue;
            }
            seen.add(method.getName() + "/" + method.getParameterCount());
            expect.holds(method + " is public and of the object",
                Modifier.isPublic(method.getModifiers()) && !Modifier.isStatic(method.getModifiers()));
            expect.holds(method + " answers an int", method.getReturnType() == int.class);
            for (Class<?> parameter : method.getParameterTypes()) {
                expect.holds(method + " takes ints", parameter == int.class);
            }
        }
        TreeSet<String> face = new TreeSet<>(Arrays.asList(FACE));
        expect.holds("the methods " + seen + " are " + face, seen.equals(face));
    }

    private static void hasANameOfItsOwn(Expect expect, Method method) {
        for (String called : FACE) {
            expect.holds(method + " does not bear the name of a public one",
                !called.startsWith(method.getName() + "/"));
        }
    }

    private static void constructors(Expect expect, Class<?> type) {
        Constructor<?>[] constructors = type.getDeclaredConstructors();
        expect.holds("one public constructor without arguments", constructors.length == 1
            && constructors[0].getParameterCount() == 0 && Modifier.isPublic(constructors[0].getModifiers()));
    }

    private static void fields(Expect expect, Class<?> type) {
        for (Field field : type.getDeclaredFields()) {
            expect.holds(field + " is private", Modifier.isPrivate(field.getModifiers()));
            if (Modifier.isStatic(field.getModifiers())) {
                expect.holds(field + " is a constant of int or long", Modifier.isFinal(field.getModifiers())
                    && (field.getType() == int.class || field.getType() == long.class));
            }
        }
    }
}
