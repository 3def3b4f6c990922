import java.io.IOException;
import java.lang.reflect.Constructor;
import java.lang.reflect.Field;
import java.lang.reflect.Method;
import java.lang.reflect.Modifier;
import java.nio.file.Files;
import java.nio.file.Path;
import java.util.Arrays;
import java.util.Set;
import java.util.TreeSet;
import java.util.regex.Pattern;
import java.util.stream.Collectors;

/** The public face, and of the rules of the language those that can be seen of the class and of its text. */
public final class FaceTest {
    private static final String ARGUMENT = " throws IllegalArgumentException";
    private static final String INDEX = " throws IndexOutOfBoundsException";
    private static final String[] FACE = {
        "int ground(int, int, int, int, int)" + ARGUMENT + ", IllegalStateException",
        "int chart(int, int, int)" + ARGUMENT,
        "int leg(int, int, int)" + ARGUMENT + ", IllegalStateException",
        "int charge(int)" + ARGUMENT,
        "int phase(int, int, int, int, int)" + INDEX + ", IllegalArgumentException, IllegalStateException",
        "int halt()",
        "int load(int, int, int)" + ARGUMENT + ", IllegalStateException",
        "int rise() throws IllegalStateException",
        "int lift(int)" + INDEX + ", IllegalStateException",
        "int place(int, int, int)" + INDEX + ", IllegalArgumentException, IllegalStateException",
        "int shift(int, int)" + ARGUMENT + ", IllegalStateException",
        "int walk(int)" + ARGUMENT + ", IllegalStateException",
        "int machine(int)" + ARGUMENT,
        "int foot(int, int)" + INDEX + ", IllegalArgumentException",
        "int point(int, int, int)" + ARGUMENT,
        "boolean isStable()",
        "boolean isStableAnew()",
        "int margin()",
        "int corner(int)" + ARGUMENT,
        "int foothold(int)" + INDEX,
        "int wouldLift(int)" + INDEX,
        "int fewest(int, int)" + ARGUMENT,
        "int fewestAnew(int, int)" + ARGUMENT,
        "int fall(int, int)" + INDEX + ", IllegalArgumentException",
    };

    public static void main(String[] args) throws IOException {
        Check.part("the face");
        face();
        Check.part("the language");
        shapes();
        text(Files.readString(Path.of(args[0])));
        Check.end();
    }

    private static String names(Class<?>[] types) {
        return Arrays.stream(types).map(Class::getSimpleName).collect(Collectors.joining(", "));
    }

    private static void face() {
        Set<String> found = new TreeSet<>();
        Set<String> publicNames = new TreeSet<>();
        for (Method m : Gaitwright.class.getDeclaredMethods()) {
            if (!Modifier.isPrivate(m.getModifiers())) {
                String thrown = names(m.getExceptionTypes());
                found.add(m.getReturnType().getSimpleName() + " " + m.getName() + "(" + names(m.getParameterTypes())
                        + ")" + (thrown.isEmpty() ? "" : " throws " + thrown));
                publicNames.add(m.getName());
                Check.due(m + " is public and no more", Modifier.PUBLIC, m.getModifiers());
            }
        }
        Check.due("the methods", new TreeSet<>(Arrays.asList(FACE)).toString(), found.toString());
        for (Method m : Gaitwright.class.getDeclaredMethods()) {
            boolean isTwice = Modifier.isPrivate(m.getModifiers()) && publicNames.contains(m.getName());
            Check.due(m + " has a public method's name", false, isTwice);
        }
        for (Field f : Gaitwright.class.getDeclaredFields()) {
            boolean isConstant = f.getName().equals("NONE");
            Check.due(f + " is private", !isConstant, Modifier.isPrivate(f.getModifiers()));
        }
        Constructor<?>[] made = Gaitwright.class.getDeclaredConstructors();
        Check.due("constructors", 1, made.length);
        Check.due("of no arguments", 0, made[0].getParameterCount());
        Check.due("public", Modifier.PUBLIC, made[0].getModifiers());
        Check.due("public and final", Modifier.PUBLIC | Modifier.FINAL, Gaitwright.class.getModifiers());
        Check.due("no package", "", Gaitwright.class.getPackageName());
    }

    private static void shapes() {
        Class<?>[] inside = Gaitwright.class.getDeclaredClasses();
        Check.due("some twelve classes at most", true, inside.length < 12);
        shape(Gaitwright.class);
        for (Class<?> c : inside) {
            Check.due(c + " is static", true, Modifier.isStatic(c.getModifiers()));
            Check.due(c + " is shown", false, Modifier.isPublic(c.getModifiers()) || Modifier.isProtected(c.getModifiers()));
            shape(c);
        }
    }

    private static void shape(Class<?> c) {
        long fields = 0;
        for (Field f : c.getDeclaredFields()) {
            boolean isStatic = Modifier.isStatic(f.getModifiers());
            Check.due(f + " is static and may change", false, isStatic && !Modifier.isFinal(f.getModifiers()));
            fields += isStatic ? 0 : 1;
        }
        Check.due(c + " has some twenty fields at most", true, fields <= 20);
        for (Method m : c.getDeclaredMethods()) {
            Check.due(m + " takes seven at most", true, m.getParameterCount() <= 7);
        }
    }

    private static void text(String whole) {
        String bare = whole.replaceAll("(?s)/\\*.*?\\*/", "").replaceAll("//[^\n]*", "").replaceAll("\"[^\"\n]*\"", "T");
        for (String word : new String[] {"finally", "assert", "synchronized", "package", "Object", "\\w+Exact", "Float",
            "Double", "System\\.(?!arraycopy)", "Random", "Thread", "NullPointerException", "ClassCastException",
            "\\w*IndexOutOfBoundsException(?<!\\bIndexOutOfBoundsException)", "NegativeArraySizeException",
            "ArrayStoreException", "catch \\((\\w+ \\| )*(Runtime)?Exception"}) {
            Check.due("the word " + word, false, Pattern.compile("\\b" + word).matcher(bare).find());
        }
        Check.due("a lambda", false, bare.contains("->"));
        Check.due("a method reference", false, bare.contains("::"));
        Check.due("imports beside the library that there is", "", bare.lines().filter(l -> l.startsWith("import"))
                .filter(l -> !l.matches("import java\\.util\\.(Arrays|ArrayList|List|Iterator|NoSuchElementException);"))
                .collect(Collectors.joining(" ")));
        if (bare.contains("class Row ")) {
            Check.due("an array's index outside of Row and Planner", 0, bare.lines()
                    .filter(l -> Pattern.compile("\\w\\[[^\\]]").matcher(l).find())
                    .filter(l -> !l.contains("cells[") && !l.contains("behind[") && !l.contains("new "))
                    .count());
        }
        Check.due("signs beyond 127", 0, whole.chars().filter(c -> c > 127).count());
    }
}
