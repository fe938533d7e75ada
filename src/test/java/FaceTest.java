import java.lang.reflect.Constructor;
import java.lang.reflect.Field;
import java.lang.reflect.Member;
import java.lang.reflect.Method;
import java.lang.reflect.Modifier;
import java.util.Arrays;
import java.util.Set;
import java.util.TreeSet;

/** The public face is the document's, and nothing else can be seen from outside. */
public final class FaceTest {
    private static final String[] FACE = {
        "BAD_ARG = -1", "FULL = -2", "NONE = -4", "SiteSwaps[]",
        "put[int]", "drop[]", "set[int, int]", "swap[int]", "turn[]", "mirror[]", "size[]", "height[int]",
        "jugglable[]", "balls[]", "state[int]", "prime[]", "period[int]", "orbits[]", "count[int]", "rank[]",
        "load[int, int]", "steps[int, int]",
    };

    private FaceTest() {
    }

    public static void main(String[] args) throws IllegalAccessException {
        Set<String> due = new TreeSet<>(Arrays.asList(FACE));
        Set<String> got = visibleMembers();
        if (!got.equals(due)) {
            System.out.println("the face is " + got + ", due is " + due);
        }
        Check.due("the face is as due", got.equals(due) ? 1 : 0, 1);
        Check.due("the class is public and final", SiteSwaps.class.getModifiers(), Modifier.PUBLIC | Modifier.FINAL);
        Check.due("nested classes", SiteSwaps.class.getDeclaredClasses().length, 0);
        dueFieldsOfTheLanguage();
        dueNamesOfTheLanguage();
        Check.end();
    }

    private static Set<String> visibleMembers() throws IllegalAccessException {
        Set<String> seen = new TreeSet<>();
        for (Field field : SiteSwaps.class.getDeclaredFields()) {
            if (isVisible(field)) {
                seen.add(field.getName() + " = " + field.getInt(null));
            }
        }
        for (Constructor<?> constructor : SiteSwaps.class.getDeclaredConstructors()) {
            if (isVisible(constructor)) {
                seen.add(constructor.getName() + Arrays.toString(constructor.getParameterTypes()));
            }
        }
        for (Method method : SiteSwaps.class.getDeclaredMethods()) {
            if (isVisible(method)) {
                seen.add(method.getName() + Arrays.toString(method.getParameterTypes()));
                Check.due(method.getName() + " answers an int", method.getReturnType() == int.class ? 1 : 0, 1);
            }
        }
        return seen;
    }

    private static boolean isVisible(Member member) {
        return !Modifier.isPrivate(member.getModifiers());
    }

    private static void dueFieldsOfTheLanguage() {
        for (Field field : SiteSwaps.class.getDeclaredFields()) {
            Class<?> type = field.getType();
            Class<?> held = type.isArray() ? type.getComponentType() : type;
            boolean whole = held.isPrimitive() && held != float.class && held != double.class;
            Check.due(field.getName() + " is of a type of the language", whole ? 1 : 0, 1);
            if (Modifier.isStatic(field.getModifiers())) {
                boolean constant = Modifier.isFinal(field.getModifiers()) && (type == int.class || type == long.class);
                Check.due(field.getName() + " is a constant", constant ? 1 : 0, 1);
            }
        }
    }

    private static void dueNamesOfTheLanguage() {
        Set<String> names = new TreeSet<>();
        for (Method method : SiteSwaps.class.getDeclaredMethods()) {
            Check.due(method.getName() + " is a name of one method", names.add(method.getName()) ? 1 : 0, 1);
        }
    }
}
