import java.lang.reflect.Constructor;
import java.lang.reflect.Field;
import java.lang.reflect.Method;
import java.lang.reflect.Modifier;
import java.util.Set;
import java.util.TreeSet;

/** The face of the class is the document's and no more, and its fields are of the kinds that LANGUAGE.md leaves. */
public final class FaceTest {
    private static final Set<String> FACE = Set.of(
        "limit/3", "free/2", "push/0", "pop/0", "stated/2", "scenarios/0", "possible/2", "follows/3",
        "relation/3", "points/1", "place/2", "crowd/1", "fewest/0", "compose/2", "closed/2");
    private static final Set<Class<?>> TYPES = Set.of(
        int.class, long.class, short.class, byte.class, char.class, boolean.class,
        int[].class, long[].class, short[].class, byte[].class, char[].class, boolean[].class);
    private static int wrong = 0;

    public static void main(String[] args) {
        due("public and final", Modifier.isPublic(IntervalDesk.class.getModifiers())
            && Modifier.isFinal(IntervalDesk.class.getModifiers()));
        due("no nested class", IntervalDesk.class.getDeclaredClasses().length == 0);
        checkConstructors();
        checkMethods();
        checkFields();
        System.out.println(wrong == 0 ? "the face is as due" : wrong + " things are not as due");
        if (wrong != 0) {
            System.exit(1);
        }
    }

    private static void due(String what, boolean holds) {
        if (!holds) {
            wrong++;
            System.out.println("not as due: " + what);
        }
    }

    private static void checkConstructors() {
        Constructor<?>[] all = IntervalDesk.class.getDeclaredConstructors();
        due("one public constructor of an int", all.length == 1 && Modifier.isPublic(all[0].getModifiers())
            && all[0].getParameterCount() == 1 && all[0].getParameterTypes()[0] == int.class);
    }

    private static void checkMethods() {
        Set<String> face = new TreeSet<>();
        Set<String> hidden = new TreeSet<>();
        for (Method m : IntervalDesk.class.getDeclaredMethods()) {
            if (Modifier.isPrivate(m.getModifiers())) {
                hidden.add(m.getName());
            } else {
                face.add(m.getName() + "/" + m.getParameterCount());
                due(m.getName() + " answers an int", m.getReturnType() == int.class);
                due(m.getName() + " is public and not static",
                    Modifier.isPublic(m.getModifiers()) && !Modifier.isStatic(m.getModifiers()));
                for (Class<?> type : m.getParameterTypes()) {
                    due(m.getName() + " takes ints", type == int.class);
                }
            }
            due(m.getName() + " takes at most seven parameters", m.getParameterCount() <= 7);
        }
        due("the methods are those of the document: " + face, face.equals(FACE));
        for (String name : face) {
            due("no private method is named as " + name, !hidden.contains(name.substring(0, name.indexOf('/'))));
        }
    }

    private static void checkFields() {
        int beside = 0;
        for (Field f : IntervalDesk.class.getDeclaredFields()) {
            due(f.getName() + " is private", Modifier.isPrivate(f.getModifiers()));
            due(f.getName() + " is of a type that is left", TYPES.contains(f.getType()));
            if (Modifier.isStatic(f.getModifiers())) {
                due(f.getName() + " is a constant", Modifier.isFinal(f.getModifiers())
                    && (f.getType() == int.class || f.getType() == long.class));
            } else {
                beside++;
            }
        }
        due("at most forty fields", beside <= 40);
    }
}
