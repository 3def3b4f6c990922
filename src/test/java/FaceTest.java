import java.lang.reflect.Constructor;
import java.lang.reflect.Field;
import java.lang.reflect.Method;
import java.lang.reflect.Modifier;
import java.util.Arrays;
import java.util.Set;
import java.util.TreeSet;
import java.util.stream.Collectors;

/** The public face, and that there is no more to be seen of the class. */
public final class FaceTest {
    private static final String ARGUMENT = " throws IllegalArgumentException";
    private static final String INDEX = " throws IndexOutOfBoundsException";
    private static final String[] FACE = {
        "int ground(int, int, int, int, int)" + ARGUMENT + ", IllegalStateException",
        "int chart(int, int, int)" + ARGUMENT,
        "int leg(int, int, int)" + ARGUMENT + ", IllegalStateException",
        "int charge(int)" + ARGUMENT,
        "int phase(int, int, int, int, int)" + INDEX + ", IllegalArgumentException, IllegalStateException",
        "int halt()",
        "int load(int, int, int)" + ARGUMENT + ", IllegalStateException",
        "int rise() throws IllegalStateException",
        "int lift(int)" + INDEX + ", IllegalStateException",
        "int place(int, int, int)" + INDEX + ", IllegalArgumentException, IllegalStateException",
        "int shift(int, int)" + ARGUMENT + ", IllegalStateException",
        "int walk(int)" + ARGUMENT + ", IllegalStateException",
        "int machine(int)" + ARGUMENT,
        "int foot(int, int)" + INDEX + ", IllegalArgumentException",
        "int point(int, int, int)" + ARGUMENT,
        "boolean isStable()",
        "boolean isStableAnew()",
        "int margin()",
        "int corner(int)" + ARGUMENT,
        "int foothold(int)" + INDEX,
        "int wouldLift(int)" + INDEX,
        "int fewest(int, int)" + ARGUMENT,
        "int fewestAnew(int, int)" + ARGUMENT,
        "int fall(int, int)" + INDEX + ", IllegalArgumentException",
    };

    public static void main(String[] args) {
        Check.part("the face");
        methods();
        members();
        Check.end();
    }

    private static String names(Class<?>[] types) {
        return Arrays.stream(types).map(Class::getSimpleName).collect(Collectors.joining(", "));
    }

    private static void methods() {
        Set<String> found = new TreeSet<>();
        Set<String> publicNames = new TreeSet<>();
        for (Method m : Gaitwright.class.getDeclaredMethods()) {
            if (!Modifier.isPrivate(m.getModifiers())) {
                String thrown = names(m.getExceptionTypes());
                found.add(m.getReturnType().getSimpleName() + " " + m.getName() + "(" + names(m.getParameterTypes())
                        + ")" + (thrown.isEmpty() ? "" : " throws " + thrown));
                publicNames.add(m.getName());
                Check.due(m + " is public and no more", Modifier.PUBLIC, m.getModifiers());
            }
        }
        Check.due("the methods", new TreeSet<>(Arrays.asList(FACE)).toString(), found.toString());
        for (Method m : Gaitwright.class.getDeclaredMethods()) {
            boolean isTwice = Modifier.isPrivate(m.getModifiers()) && publicNames.contains(m.getName());
            Check.due(m + " has a public method's name", false, isTwice);
        }
    }

    private static void members() {
        for (Field f : Gaitwright.class.getDeclaredFields()) {
            boolean isConstant = f.getName().equals("NONE");
            Check.due(f + " is private", !isConstant, Modifier.isPrivate(f.getModifiers()));
        }
        Constructor<?>[] made = Gaitwright.class.getDeclaredConstructors();
        Check.due("constructors", 1, made.length);
        Check.due("of no arguments", 0, made[0].getParameterCount());
        Check.due("public", Modifier.PUBLIC, made[0].getModifiers());
        Check.due("public and final", Modifier.PUBLIC | Modifier.FINAL, Gaitwright.class.getModifiers());
        Check.due("no package", "", Gaitwright.class.getPackageName());
    }
}
