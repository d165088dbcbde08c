import java.io.IOException;
import java.lang.reflect.Constructor;
import java.lang.reflect.Field;
import java.lang.reflect.Method;
import java.lang.reflect.Modifier;
import java.nio.file.Files;
import java.nio.file.Path;
import java.util.ArrayList;
import java.util.List;
import java.util.Map;
import java.util.Set;
import java.util.TreeMap;
import java.util.TreeSet;
import java.util.regex.Pattern;

/** The document's public face, member by member, and what LANGUAGE.md rules out, as far as it is easily seen. */
public final class FaceTest {
    private static final String SOURCE = "src/main/java/ChipPilers.java";
    private static final int MOST_CLASSES = 12;
    private static final int MOST_FIELDS = 20;
    private static final int MOST_PARAMETERS = 7;
    private static final int MOST_LINES_OF_A_METHOD = 60;

    private static final Map<String, Integer> CONSTANTS = Map.of(
        "UNKNOWN", -1, "BAD_VALUE", -2, "FULL", -3, "NOT_POSSIBLE", -4, "NONE", -5);

    private static final Set<String> METHODS = Set.of(
        "int reset(int, int)", "int put(int, int, int)", "int strew(int, int, int)",
        "int addWalker(int, int, int, int, int)", "int setSort(int, int)", "int empty(int)", "int addTurn(int)",
        "int clearTurns()", "int walk(int, int)", "int rounds(int)", "int type(char)", "int clearText()", "int run()",
        "int undo()", "int keep(int)", "int restore(int)", "int chips(int, int)", "int walker(int, int)",
        "int heap(int, int)", "int heapOf(int, int)", "int roundsUntil(int)", "int turn(int)", "int count(int)");

    // Words and signs that rules 1, 2, 4, 6 and 13 leave no room for, in the code without its comments.
    private static final List<String> RULED_OUT = List.of(
        "\\bpackage\\b", "\\bprotected\\b", "\\bthrows?\\b", "\\btry\\b", "\\bcatch\\b", "\\bfinally\\b",
        "\\bsynchronized\\b", "\\bassert\\b", "->", "::", "\\bSystem\\.(?!arraycopy\\b)", "\\bThread\\b",
        "\\bRandom\\b", "\\b\\w+Exact\\b", "\\bObject\\b", "\\bMap\\b", "\\bSet\\b", "\\bformat\\b", "\\bstatic \\{");

    public static void main(String[] args) throws IOException, IllegalAccessException {
        theClass();
        constants();
        methods();
        classesInside();
        wordsOfTheSource();
        linesOfMethods();
        Check.end();
    }

    private static void yes(String what, boolean holds) {
        Check.due(what, holds ? 1 : 0, 1);
    }

    private static void theClass() {
        Check.about("The public face: public final class ChipPilers");
        int signs = ChipPilers.class.getModifiers();
        yes("public", Modifier.isPublic(signs));
        yes("final", Modifier.isFinal(signs));
        yes("of no other class", ChipPilers.class.getSuperclass() == Object.class);
        yes("of no interface", ChipPilers.class.getInterfaces().length == 0);
        Constructor<?>[] constructors = ChipPilers.class.getDeclaredConstructors();
        Check.due("constructors", constructors.length, 1);
        yes("a public constructor", Modifier.isPublic(constructors[0].getModifiers()));
        Check.due("its parameters", constructors[0].getParameterCount(), 0);
    }

    private static void constants() throws IllegalAccessException {
        Check.about("The public face: the constants, and no other member that isn't private");
        int found = 0;
        for (Field field : ChipPilers.class.getDeclaredFields()) {
            if (Modifier.isPrivate(field.getModifiers())) {
                yes(field.getName() + " is none of the face", !CONSTANTS.containsKey(field.getName()));
                continue;
            }
            found++;
            yes(field.getName() + " is of the face", CONSTANTS.containsKey(field.getName()));
            yes(field.getName() + " is a constant", field.toString().startsWith("public static final int "));
            Check.due(field.getName(), field.getInt(null), CONSTANTS.getOrDefault(field.getName(), 0));
        }
        Check.due("constants", found, CONSTANTS.size());
    }

    private static void methods() {
        Check.about("The public face: the methods, and no other one that isn't private");
        Set<String> found = new TreeSet<>();
        for (Method method : ChipPilers.class.getDeclaredMethods()) {
            if (!Modifier.isPrivate(method.getModifiers())) {
                found.add(form(method));
                yes(form(method) + " is public", Modifier.isPublic(method.getModifiers()));
                yes(form(method) + " is of an object", !Modifier.isStatic(method.getModifiers()));
            }
        }
        yes("the document's methods: " + found, found.equals(METHODS));
    }

    private static String form(Method method) {
        List<String> types = new ArrayList<>();
        for (Class<?> type : method.getParameterTypes()) {
            types.add(type.getSimpleName());
        }
        return method.getReturnType().getSimpleName() + " " + method.getName() + "(" + String.join(", ", types) + ")";
    }

    private static void classesInside() {
        Check.about("LANGUAGE.md, rules 1, 2, 5, 11 and 12");
        List<Class<?>> classes = new ArrayList<>(List.of(ChipPilers.class.getDeclaredClasses()));
        for (Class<?> inside : classes) {
            int signs = inside.getModifiers();
            yes(inside + " is static", Modifier.isStatic(signs));
            yes(inside + " isn't open", !Modifier.isPublic(signs) && !Modifier.isProtected(signs));
            Check.due("classes inside " + inside, inside.getDeclaredClasses().length, 0);
        }
        classes.add(ChipPilers.class);
        yes("at most twelve classes", classes.size() <= MOST_CLASSES);
        for (Class<?> one : classes) {
            fieldsOf(one);
            methodsOf(one);
        }
    }

    private static void fieldsOf(Class<?> one) {
        int fields = 0;
        for (Field field : one.getDeclaredFields()) {
            if (Modifier.isStatic(field.getModifiers())) {
                yes(field + " is final", Modifier.isFinal(field.getModifiers()));
            } else {
                fields++;
            }
        }
        yes("at most twenty fields in " + one, fields <= MOST_FIELDS);
    }

    private static void methodsOf(Class<?> one) {
        Set<String> names = new TreeSet<>();
        for (Method method : ChipPilers.class.getMethods()) {
            names.add(method.getName());
        }
        for (Method method : one.getDeclaredMethods()) {
            yes("at most seven parameters of " + method, method.getParameterCount() <= MOST_PARAMETERS);
            boolean closed = Modifier.isPrivate(method.getModifiers());
            yes(method + " has a name of its own", !(closed && names.contains(method.getName())));
            yes(method + " is none of Object's", one == ChipPilers.class
                || !Set.of("equals", "hashCode", "toString").contains(method.getName()));
        }
    }

    private static String withoutComments(String source) {
        return source.replaceAll("(?s)/\\*.*?\\*/", "").replaceAll("//[^\n]*", "");
    }

    private static void wordsOfTheSource() throws IOException {
        Check.about("LANGUAGE.md, rules 1, 2, 4, 6 and 13: words that the source doesn't have");
        String source = Files.readString(Path.of(SOURCE));
        for (char sign : source.toCharArray()) {
            if (sign > 126 || sign < 32 && sign != '\n') {
                Check.due("a sign of the source", sign, ' ');
            }
        }
        String code = withoutComments(source);
        for (String word : RULED_OUT) {
            yes(word, !Pattern.compile(word).matcher(code).find());
        }
        for (String line : code.split("\n")) {
            if (line.startsWith("import ")) {
                yes(line, line.equals("import java.util.Arrays;"));
            }
        }
    }

    /** A method begins with a line that ends in ") {" behind its class's indent, and ends with the brace below it. */
    private static void linesOfMethods() throws IOException {
        Check.about("LANGUAGE.md, rule 11: methods stay short");
        Map<String, Integer> begun = new TreeMap<>();
        int number = 0;
        int methods = 0;
        for (String line : Files.readAllLines(Path.of(SOURCE))) {
            number++;
            String indent = line.substring(0, line.length() - line.stripLeading().length());
            if (indent.length() <= 8 && line.endsWith(") {")) {
                begun.put(indent, number);
            } else if (line.equals(indent + "}") && begun.containsKey(indent)) {
                methods++;
                yes("the method that ends at line " + number, number - begun.remove(indent) < MOST_LINES_OF_A_METHOD);
            }
        }
        yes("methods were found", methods > METHODS.size());
    }
}
