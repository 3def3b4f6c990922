import java.io.IOException;
import java.lang.reflect.Field;
import java.lang.reflect.Method;
import java.lang.reflect.Modifier;
import java.nio.file.Files;
import java.nio.file.Path;
import java.util.ArrayList;
import java.util.Arrays;
import java.util.List;
import java.util.Set;
import java.util.regex.Matcher;
import java.util.regex.Pattern;
import java.util.stream.Collectors;
import java.util.stream.Stream;

/**
 * LANGUAGE.md, by its rules: what can be seen of the classes from outside, and of their text. Rules 7, 8, 9
 * and 12 are seen in part alone; what is left of them, and rule 1's face, is not looked at here.
 */
public final class LanguageTest {
    private static final Set<String> LIBRARY = Set.of("String", "StringBuilder", "Integer", "ArrayList", "List");
    private static final Set<String> STATIC_TYPES =
            Set.of("int", "long", "boolean", "char", "String", "int[]", "long[]", "char[]", "byte[]");
    private static final String THROWN = "(IllegalState|IllegalArgument|IndexOutOfBounds|Arithmetic"
            + "|UnsupportedOperation|NoSuchElement|Runtime)Exception";
    private static final int LONGEST_METHOD = 60;

    private LanguageTest() { }

    public static void main(String[] args) throws IOException {
        List<Class<?>> classes = new ArrayList<>(List.of(Gaitwright.class));
        classes.addAll(Arrays.asList(Gaitwright.class.getDeclaredClasses()));
        String whole = Files.readString(Path.of(args[0]));
        String bare = whole.replaceAll("(?s)/\\*.*?\\*/", "").replaceAll("//[^\n]*", "")
                .replaceAll("\"[^\"\n]*\"", "\"T\"");
        inside();
        types(classes);
        library(whole, bare);
        statics(classes, bare);
        exceptions(bare);
        arraysAndLoops(bare);
        sizes(classes, bare);
        Check.end();
    }

    private static void absent(String word, String bare) {
        Matcher found = Pattern.compile(word).matcher(bare);
        Check.due("the text has /" + word + "/", "", found.find() ? found.group() : "");
    }

    private static void inside() {
        Check.part("rules 1 and 2, classes inside");
        for (Class<?> c : Gaitwright.class.getDeclaredClasses()) {
            Check.due(c + " is static", true, Modifier.isStatic(c.getModifiers()));
            Check.due(c + " is shown", false, Modifier.isPublic(c.getModifiers()) || Modifier.isProtected(c.getModifiers()));
        }
    }

    /** A type that a field, an argument or an answer may have. */
    private static boolean isAllowed(Class<?> type) {
        Class<?> of = type.isArray() ? type.getComponentType() : type;
        if (of.isArray()) {
            return of.getComponentType().isPrimitive();
        }
        return of.isPrimitive() || of.getName().startsWith("Gaitwright") || LIBRARY.contains(of.getSimpleName());
    }

    private static void types(List<Class<?>> classes) {
        Check.part("rule 3, types");
        for (Class<?> c : classes) {
            for (Field f : c.getDeclaredFields()) {
                Check.due("the type of " + f, true, isAllowed(f.getType()));
            }
            for (Method m : c.getDeclaredMethods()) {
                boolean isAll = Stream.concat(Stream.of(m.getReturnType()), Arrays.stream(m.getParameterTypes()))
                        .allMatch(LanguageTest::isAllowed);
                Check.due("the types of " + m, true, isAll);
            }
        }
    }

    private static void library(String whole, String bare) {
        Check.part("rules 2, 4, 10 and 13, the library");
        Check.due("imports beside it", "", bare.lines().filter(l -> l.startsWith("import"))
                .filter(l -> !l.matches("import java\\.util\\.(Arrays|ArrayList|List|Iterator|NoSuchElementException);"))
                .collect(Collectors.joining(" ")));
        for (String word : new String[] {"(?m)^package\\b", "(?m)^(?!\\s*(case|default)\\b).*->", "::", "\\bObject\\b", "\\b\\w+Exact\\b", "\\bFloat\\.",
            "\\bDouble\\.", "\\bSystem\\.(?!arraycopy\\b)", "\\bArrays\\.(?!(copyOf|copyOfRange|fill)\\b)",
            "\\bMath\\.(?!(abs|min|max|floorDiv|floorMod|multiplyFull|multiplyHigh)\\b)", "\\bRandom", "\\bThread", "\\bjava\\.(?!util\\.)",
            "\"T\" *\\+", "\\+ *\"T\"", "\\bhashCode\\b"}) {
            absent(word, bare);
        }
        Check.due("signs beyond 127", 0, whole.chars().filter(c -> c > 127).count());
    }

    private static void statics(List<Class<?>> classes, String bare) {
        Check.part("rule 5, static fields");
        for (Class<?> c : classes) {
            for (Field f : c.getDeclaredFields()) {
                if (Modifier.isStatic(f.getModifiers())) {
                    Check.due(f + " is final", true, Modifier.isFinal(f.getModifiers()));
                    Check.due("the type of " + f, true, STATIC_TYPES.contains(f.getType().getSimpleName()));
                }
            }
        }
        absent("\\bstatic *\\{", bare);
    }

    private static void exceptions(String bare) {
        Check.part("rule 6, exceptions");
        for (String word : new String[] {"\\bfinally\\b", "\\bassert\\b", "\\bsynchronized\\b", "\\btry *\\(",
            "\\bThrowable\\b", "\\bextends +\\w*(Exception|Error)\\b", "\\bcatch *\\((?!" + THROWN + "\\b)",
            "\\bcatch *\\((\\w+ *\\| *)*(RuntimeException|Exception)\\b",
            "\\bthrow (?!new " + THROWN + "\\((\"T\")?\\);)"}) {
            absent(word, bare);
        }
        Matcher made = Pattern.compile("\n    public Gaitwright\\(\\) \\{.*?\n    \\}", Pattern.DOTALL).matcher(bare);
        Check.due("the constructor is found", true, made.find());
        Check.due("a throw in it", false, made.group().contains("throw "));
    }

    private static void arraysAndLoops(String bare) {
        Check.part("rules 7 and 9, indexes and loops");
        if (bare.contains("class Row ")) {
            Check.due("an array's index outside of Row and Planner", 0, bare.lines()
                    .filter(l -> Pattern.compile("\\w\\[[^\\]]").matcher(l).find())
                    .filter(l -> !l.contains("cells[") && !l.contains("behind[") && !l.contains("new "))
                    .count());
        }
        absent("\\bwhile *\\(true\\)", bare);
        absent("\\bfor *\\([^;]*; *;", bare);
    }

    private static void sizes(List<Class<?>> classes, String bare) {
        Check.part("rule 11, sizes");
        Check.due("some twelve classes at most", true, classes.size() <= 12);
        for (Class<?> c : classes) {
            long fields = Arrays.stream(c.getDeclaredFields()).filter(f -> !Modifier.isStatic(f.getModifiers())).count();
            Check.due(c + " has some twenty fields at most", true, fields <= 20);
            for (Method m : c.getDeclaredMethods()) {
                Check.due(m + " takes seven at most", true, m.getParameterCount() <= 7);
            }
        }
        // A body begins behind a line that ends in ") {" or names what is thrown, and ends at a brace as far in.
        Matcher body = Pattern.compile("\n( {4}| {8})\\w[^;{}=]*\\)[^;{}=]*\\{\n.*?\n\\1\\}", Pattern.DOTALL).matcher(bare);
        int bodies = 0;
        while (body.find()) {
            long lines = body.group().lines().count();
            Check.due("a method of " + lines + " lines: " + body.group().strip().lines().findFirst().orElse(""),
                    true, lines <= LONGEST_METHOD);
            bodies++;
        }
        Check.due("methods are found", true, bodies > 40);
    }
}
