import java.lang.reflect.Constructor;
import java.lang.reflect.Field;
import java.lang.reflect.Method;
import java.lang.reflect.Modifier;
import java.util.Arrays;
import java.util.Set;
import java.util.TreeSet;

/** The class has the members of the document's public face, and shows no other. */
public final class FaceTest {
    private static final String INDEX = " throws IndexOutOfBoundsException";
    private static final String BOTH = INDEX + ", IllegalArgumentException";
    private static final Set<String> METHODS = new TreeSet<>(Arrays.asList(
            "boolean set(int, int, long, long)" + BOTH,
            "boolean put(int, int, long, long)" + BOTH,
            "boolean sum(int, int, int)" + INDEX,
            "boolean less(int, int, int)" + INDEX,
            "boolean times(int, long, int)" + INDEX,
            "void only(int, int, boolean, int)" + BOTH,
            "boolean part(int, int, int)" + INDEX,
            "void clear(int)" + INDEX,
            "long amount(int, int, long)" + BOTH,
            "int size(int)" + INDEX,
            "long at(int, int, int)" + INDEX,
            "int compare(int, int)" + INDEX,
            "boolean least(int, int, int)" + INDEX,
            "long into(int, int)" + INDEX,
            "int look(int, int)" + INDEX));

    public static void main(String[] args) {
        Check check = new Check("The public face");
        check.due("the class is", "public final", Modifier.toString(CoinBag.class.getModifiers()));
        check.due("the methods that show", METHODS, shownMethods());
        check.due("the constructors that show", Set.of("()"), shownConstructors());
        check.due("the fields that show", Set.of("public static final int NONE"), shownFields());
        check.due("private methods with a public one's name", Set.of(), sharedNames());
        check.due("classes inside that show or aren't static", Set.of(), wrongClassesInside());
        check.end();
    }

    private static String names(Class<?>[] types) {
        return String.join(", ", Arrays.stream(types).map(Class::getSimpleName).toList());
    }

    private static Set<String> shownMethods() {
        Set<String> shown = new TreeSet<>();
        for (Method m : CoinBag.class.getDeclaredMethods()) {
            if (!Modifier.isPrivate(m.getModifiers())) {
                String access = Modifier.toString(m.getModifiers());
                shown.add((access.equals("public") ? "" : access + " ")
                        + m.getReturnType().getSimpleName() + " " + m.getName()
                        + "(" + names(m.getParameterTypes()) + ") throws " + names(m.getExceptionTypes()));
            }
        }
        return shown;
    }

    private static Set<String> shownConstructors() {
        Set<String> shown = new TreeSet<>();
        for (Constructor<?> c : CoinBag.class.getDeclaredConstructors()) {
            shown.add("(" + names(c.getParameterTypes()) + ")" + names(c.getExceptionTypes()));
        }
        return shown;
    }

    private static Set<String> shownFields() {
        Set<String> shown = new TreeSet<>();
        for (Field f : CoinBag.class.getDeclaredFields()) {
            if (!Modifier.isPrivate(f.getModifiers())) {
                shown.add(Modifier.toString(f.getModifiers()) + " " + f.getType() + " " + f.getName());
            }
        }
        return shown;
    }

    private static Set<String> sharedNames() {
        Set<String> open = new TreeSet<>();
        Set<String> hidden = new TreeSet<>();
        for (Method m : CoinBag.class.getDeclaredMethods()) {
            (Modifier.isPrivate(m.getModifiers()) ? hidden : open).add(m.getName());
        }
        hidden.retainAll(open);
        return hidden;
    }

    private static Set<String> wrongClassesInside() {
        Set<String> found = new TreeSet<>();
        for (Class<?> inside : CoinBag.class.getDeclaredClasses()) {
            int has = inside.getModifiers();
            if (Modifier.isPublic(has) || Modifier.isProtected(has) || !Modifier.isStatic(has)) {
                found.add(inside.getSimpleName());
            }
        }
        return found;
    }
}
