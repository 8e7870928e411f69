import java.lang.reflect.Constructor;
import java.lang.reflect.Field;
import java.lang.reflect.Method;
import java.lang.reflect.Modifier;
import java.nio.file.Files;
import java.nio.file.Path;
import java.util.Arrays;
import java.util.HashSet;
import java.util.Set;
import java.util.TreeSet;
import java.util.regex.Matcher;
import java.util.regex.Pattern;

/** The rules of LANGUAGE.md that can be seen in the file's text or by its face. */
public final class LanguageTest {
    private static final Check check = new Check();
    private static final String FACE = "adds(1) alike(1) back(1) bends(2) camp(0) clear(0) cold(4) contract(1) "
            + "count(1) keep(1) lives(1) loosens(1) mixed(2) name(2) newName(3) next(0) now(1) order(1) "
            + "porridge(4) pulls(1) rate(2) ring(1) root(1) share(2) tears(0) ties(2) trace(0) type(1) "
            + "undo(0) unties(1) way(2)";

    public static void main(String[] args) throws Exception {
        String source = Files.readString(Path.of("src/main/java/KnotNames.java"));
        face();
        noPrivateNamesake();
        words(bare(source));
        sizes(source);
        check.end();
    }

    private static void face() {
        Set<String> methods = new TreeSet<>();
        for (Method method : KnotNames.class.getDeclaredMethods()) {
            if (!Modifier.isPrivate(method.getModifiers())) {
                methods.add(method.getName() + "(" + method.getParameterCount() + ")");
                boolean isLong = Set.of("cold", "trace").contains(method.getName());
                check.due(method.getName() + " answers", "" + method.getReturnType(), isLong ? "long" : "int");
                check.due(method.getName() + " is", Modifier.toString(method.getModifiers()), "public");
                check.due(method.getName() + " takes ints", Arrays.stream(method.getParameterTypes())
                        .filter(type -> type != int.class).count(), 0);
            }
        }
        check.due("the methods", String.join(" ", methods), FACE);
        Set<String> constants = new TreeSet<>();
        for (Field field : KnotNames.class.getDeclaredFields()) {
            if (!Modifier.isPrivate(field.getModifiers())) {
                constants.add(field.getName());
                check.due(field.getName() + " is", field.toGenericString(),
                        "public static final int KnotNames." + field.getName());
            }
        }
        check.due("the constants", String.join(" ", constants), "BAD FULL NO NONE STATE");
        Constructor<?>[] constructors = KnotNames.class.getDeclaredConstructors();
        check.due("constructors", constructors.length, 1);
        check.due("the class", Modifier.toString(KnotNames.class.getModifiers()), "public final");
        check.due("BAD", KnotNames.BAD, -1);
        check.due("STATE", KnotNames.STATE, -2);
        check.due("FULL", KnotNames.FULL, -3);
        check.due("NONE", KnotNames.NONE, -9);
        check.due("NO", KnotNames.NO, -1000000);
    }

    private static void noPrivateNamesake() {
        Set<String> open = new HashSet<>();
        for (Method method : KnotNames.class.getDeclaredMethods()) {
            if (Modifier.isPublic(method.getModifiers())) {
                open.add(method.getName());
            }
        }
        Set<String> namesakes = new TreeSet<>();
        collect(KnotNames.class, open, namesakes);
        for (Class<?> inside : KnotNames.class.getDeclaredClasses()) {
            collect(inside, open, namesakes);
            check.due(inside.getSimpleName() + " is static", Modifier.isStatic(inside.getModifiers()) ? 1 : 0, 1);
        }
        check.due("private methods with a public one's name", namesakes.toString(), "[]");
        check.due("classes at most twelve", KnotNames.class.getDeclaredClasses().length < 12 ? 1 : 0, 1);
    }

    private static void collect(Class<?> inside, Set<String> open, Set<String> namesakes) {
        int fields = 0;
        for (Field field : inside.getDeclaredFields()) {
            fields += Modifier.isStatic(field.getModifiers()) ? 0 : 1;
        }
        check.due(inside.getSimpleName() + " has some twenty fields at most", fields <= 20 ? 1 : 0, 1);
        for (Method method : inside.getDeclaredMethods()) {
            if (!Modifier.isPublic(method.getModifiers()) && open.contains(method.getName())) {
                namesakes.add(inside.getSimpleName() + "." + method.getName());
            }
            check.due(method.getName() + " takes at most seven", method.getParameterCount() <= 7 ? 1 : 0, 1);
        }
    }

    /** The source without its comments. */
    private static String bare(String source) {
        return source.replaceAll("(?s)/\\*.*?\\*/", "").replaceAll("//[^\n]*", "");
    }

    private static void words(String source) {
        String[] ruledOut = {"throw", "throws", "try", "catch", "synchronized", "assert", "import", "package",
            "native", "volatile", "hashCode", "toString", "Object", "System", "Random", "Thread", "Class",
            "protected", "var", "transient", "strictfp"};
        for (String word : ruledOut) {
            check.due("the word " + word, Pattern.compile("\\b" + word + "\\b").matcher(source).find() ? 1 : 0, 0);
        }
        check.due("lambdas", source.contains("->") ? 1 : 0, 0);
        check.due("method references", source.contains("::") ? 1 : 0, 0);
        check.due("Exact functions", Pattern.compile("\\w+Exact\\b").matcher(source).find() ? 1 : 0, 0);
        Matcher library = Pattern.compile("\\b(Math|Integer|Long|Arrays)\\.(\\w+)").matcher(source);
        Set<String> allowed = Set.of("max", "min", "abs", "compare", "bitCount", "floorDiv", "floorMod");
        while (library.find()) {
            check.due("library " + library.group(), allowed.contains(library.group(2)) ? 1 : 0, 1);
        }
        long beyond = source.chars().filter(sign -> sign > 126).count();
        check.due("signs beyond 126", beyond, 0);
    }

    /** A method begins at a line that ends in ") {" behind a modifier and ends at a brace below it. */
    private static void sizes(String source) {
        String[] lines = source.split("\n");
        for (int i = 0; i < lines.length; i++) {
            if (lines[i].matches(" +(public|private) .*\\) \\{")) {
                String end = lines[i].replaceAll("\\S.*", "") + "}";
                int last = i;
                while (last < lines.length && !lines[last].equals(end)) {
                    last++;
                }
                check.due("short: " + lines[i].trim(), last - i < 60 ? 1 : 0, 1);
            }
        }
    }
}
