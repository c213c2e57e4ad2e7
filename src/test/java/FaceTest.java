import java.lang.reflect.Constructor;
import java.lang.reflect.Field;
import java.lang.reflect.Member;
import java.lang.reflect.Method;
import java.lang.reflect.Modifier;
import java.util.ArrayList;
import java.util.List;
import java.util.TreeSet;

/** The public face is the document's, and nothing else of the class can be seen from outside. */
public final class FaceTest {
    private static final List<String> METHODS = List.of(
        "letter/2", "misread/2", "drop/1", "change/2", "walk/1", "stackers/1", "room/2", "code/2", "dense/0", "of/2",
        "run/2", "out/2", "spilled/2", "load/2", "rise/0", "best/2", "take/1", "fewest/0", "needs/1",
        "image/1", "restore/1", "count/1");
    private static final List<String> CONSTANTS = List.of("UNKNOWN=-1", "OUTSIDE=-2", "STATE=-3", "FULL=-4", "NO=-5", "NONE=-6");
    private static int wrong = 0;

    private static void due(String what, Object got, Object want) {
        if (!got.equals(want)) {
            wrong++;
            System.out.println(what + " is " + got + ", due is " + want);
        }
    }

    private static boolean isSeen(Member member) {
        return !Modifier.isPrivate(member.getModifiers()) && !member.isSynthetic();
    }

    private static void methods(Class<?> type) {
        List<String> seen = new ArrayList<>();
        List<String> hiddenByName = new ArrayList<>();
        for (Method m : type.getDeclaredMethods()) {
            String text = m.getName() + "/" + m.getParameterCount();
            boolean isOfFace = METHODS.stream().anyMatch(n -> n.startsWith(m.getName() + "/"));
            if (isSeen(m)) {
                seen.add(text);
                due("what " + text + " answers", m.getReturnType(), int.class);
                for (Class<?> parameter : m.getParameterTypes()) due("a parameter of " + text, parameter, int.class);
                due(text + " is public and not static", Modifier.isPublic(m.getModifiers()) && !Modifier.isStatic(m.getModifiers()), true);
            } else if (isOfFace) {
                hiddenByName.add(text);
            }
        }
        due("the methods", new TreeSet<>(seen), new TreeSet<>(METHODS));
        due("how many methods there are", seen.size(), METHODS.size());
        due("private methods with a public name", hiddenByName, List.of());
    }

    /** Rule 1 of the language does not say of which class: no private method of an inner one has a public name either. */
    private static void hiddenNames(Class<?> inner) {
        for (Method m : inner.getDeclaredMethods()) {
            boolean isOfFace = METHODS.stream().anyMatch(n -> n.startsWith(m.getName() + "/"));
            due(inner.getSimpleName() + "." + m.getName() + " is private with a public name", !isSeen(m) && isOfFace, false);
        }
    }

    private static void fields(Class<?> type) throws IllegalAccessException {
        List<String> seen = new ArrayList<>();
        for (Field f : type.getDeclaredFields()) {
            if (Modifier.isStatic(f.getModifiers())) due(f.getName() + " is final", Modifier.isFinal(f.getModifiers()), true);
            if (!isSeen(f)) continue;
            due(f.getName() + " is a public constant", f.getModifiers(), Modifier.PUBLIC | Modifier.STATIC | Modifier.FINAL);
            due("the type of " + f.getName(), f.getType(), int.class);
            seen.add(f.getName() + "=" + f.getInt(null));
        }
        due("the constants", seen, CONSTANTS);
    }

    private static void constructors(Class<?> type) {
        Constructor<?>[] all = type.getDeclaredConstructors();
        due("how many constructors there are", all.length, 1);
        due("parameters of the constructor", all[0].getParameterCount(), 0);
        due("the constructor is public", Modifier.isPublic(all[0].getModifiers()), true);
    }

    public static void main(String[] args) throws IllegalAccessException {
        Class<?> type = WalkPasses.class;
        due("the class", type.getModifiers(), Modifier.PUBLIC | Modifier.FINAL);
        methods(type);
        fields(type);
        constructors(type);
        for (Class<?> inner : type.getDeclaredClasses()) {
            due(inner.getSimpleName() + " is static", Modifier.isStatic(inner.getModifiers()), true);
            due(inner.getSimpleName() + " is public", Modifier.isPublic(inner.getModifiers()), false);
            hiddenNames(inner);
        }
        System.out.println(wrong == 0 ? "the face is as due" : wrong + " things of the face are not as due");
        if (wrong != 0) System.exit(1);
    }
}
