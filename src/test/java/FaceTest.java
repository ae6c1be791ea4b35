import java.io.IOException;
import java.lang.reflect.Constructor;
import java.lang.reflect.Field;
import java.lang.reflect.Method;
import java.lang.reflect.Modifier;
import java.nio.file.Files;
import java.nio.file.Path;
import java.util.Arrays;
import java.util.Set;
import java.util.TreeSet;
import java.util.regex.Matcher;
import java.util.regex.Pattern;

/** The public face, and the rules of LANGUAGE.md that can be seen from outside or in the text. */
public final class FaceTest {
    private static final String SOURCE = "src/main/java/PathBook.java";
    private static final String[] METHODS = {
        "addPage(int, int, int)", "setMood(int, int)", "addChoice(int, int, int, int)", "addChoices()",
        "takeChoice(int, int)", "exchange(int, int)", "begin(int)", "choose(int, int)", "mark(int)",
        "goToMark(int)", "type(char)", "clearText()", "undo()", "keep()", "restore()", "page(int, int)",
        "choice(int, int, int)", "reader(int, int)", "why(int, int)", "way(int, int)", "wayMood()", "count(int)",
    };
    private static final String[] CONSTANTS = {"UNKNOWN", "BAD_VALUE", "FULL", "NOT_POSSIBLE", "NONE"};
    private static final String[] BARRED = {
        "\\bpackage\\b", "\\bFloat\\b", "\\bDouble\\b", "->", "::", "\\bfinally\\b", "\\bassert\\b",
        "\\bsynchronized\\b", "\\bprotected\\b", "\\bstatic\\s*\\{", "\\bThread\\b", "\\bRandom\\b",
        "Exact\\b", "[^\\x00-\\x7f]", "\\b(NullPointer|ClassCast|NegativeArraySize|ArrayStore)Exception\\b",
        "\\b(ArrayIndexOutOfBounds|StringIndexOutOfBounds)Exception\\b", "\\b(Throwable|Error|Exception)\\b",
    };

    // The second group is there for a constructor alone.
    private static final Pattern HEAD = Pattern.compile("( {4}| {8})(?!(?:if|for|while|switch)\\b)"
        + "(?:((?:public )?[A-Z]\\w*)|[a-zA-Z][\\w \\[\\]]* \\w+)\\(.*\\) \\{");

    private static int wrong = 0;

    private static void holds(String what, boolean does) {
        if (!does) {
            wrong++;
            System.out.println("does not hold: " + what);
        }
    }

    public static void main(String[] args) throws IOException {
        face();
        for (Class<?> inside : PathBook.class.getDeclaredClasses()) {
            inside(inside);
        }
        holds("some twelve classes", PathBook.class.getDeclaredClasses().length <= 12);
        source(Files.readString(Path.of(SOURCE)));
        System.out.println(wrong == 0 ? "FaceTest: all holds" : wrong + " do not hold");
        if (wrong != 0) {
            System.exit(1);
        }
    }

    private static String signature(Method method) {
        StringBuilder text = new StringBuilder(method.getName()).append('(');
        for (Class<?> type : method.getParameterTypes()) {
            text.append(text.charAt(text.length() - 1) == '(' ? "" : ", ").append(type.getName());
        }
        return text.append(')').toString();
    }

    private static void face() {
        int kind = PathBook.class.getModifiers();
        holds("the class is public and final", Modifier.isPublic(kind) && Modifier.isFinal(kind));
        holds("the class has no package", PathBook.class.getPackageName().isEmpty());
        holds("the class extends and implements nothing",
            PathBook.class.getSuperclass() == Object.class && PathBook.class.getInterfaces().length == 0);

        Constructor<?>[] makers = PathBook.class.getDeclaredConstructors();
        holds("one constructor, public, of nothing",
            makers.length == 1 && Modifier.isPublic(makers[0].getModifiers()) && makers[0].getParameterCount() == 0);

        Set<String> told = new TreeSet<>();
        for (Method method : PathBook.class.getDeclaredMethods()) {
            boolean open = Modifier.isPublic(method.getModifiers());
            holds(method + " is public or private", open || Modifier.isPrivate(method.getModifiers()));
            if (open) {
                told.add(signature(method));
                holds(method + " returns an int", method.getReturnType() == int.class);
                holds(method + " is of an object", !Modifier.isStatic(method.getModifiers()));
                holds(method + " declares no exception", method.getExceptionTypes().length == 0);
            }
        }
        holds("the methods are the document's: " + told, told.equals(new TreeSet<>(Arrays.asList(METHODS))));

        Set<String> constants = new TreeSet<>();
        for (Field field : PathBook.class.getDeclaredFields()) {
            if (Modifier.isPrivate(field.getModifiers())) {
                continue;
            }
            constants.add(field.getName());
            holds(field + " is a public constant", field.getType() == int.class && field.getModifiers()
                == (Modifier.PUBLIC | Modifier.STATIC | Modifier.FINAL));
        }
        holds("the constants are the document's", constants.equals(new TreeSet<>(Arrays.asList(CONSTANTS))));
        fields(PathBook.class);
        methods(PathBook.class);
    }

    private static void inside(Class<?> inside) {
        int kind = inside.getModifiers();
        holds(inside + " is static", Modifier.isStatic(kind));
        holds(inside + " is hidden", !Modifier.isPublic(kind) && !Modifier.isProtected(kind));
        holds(inside + " has no class inside", inside.getDeclaredClasses().length == 0);
        fields(inside);
        methods(inside);
    }

    private static void fields(Class<?> owner) {
        int own = 0;
        for (Field field : owner.getDeclaredFields()) {
            if (Modifier.isStatic(field.getModifiers())) {
                holds(field + " is final", Modifier.isFinal(field.getModifiers()));
                holds(field + " is a plain constant", field.getType().isPrimitive());
            } else {
                own++;
            }
        }
        holds(owner + " has some twenty fields", own <= 20);
    }

    private static void methods(Class<?> owner) {
        Set<String> names = new TreeSet<>();
        for (String method : METHODS) {
            names.add(method.substring(0, method.indexOf('(')));
        }
        for (Method method : owner.getDeclaredMethods()) {
            boolean face = owner == PathBook.class && Modifier.isPublic(method.getModifiers());
            holds(method + " bears no public name", face || !names.contains(method.getName()));
            holds(method + " has at most seven parameters", method.getParameterCount() <= 7);
            holds(method + " is nobody's equals, hashCode or toString",
                !Set.of("equals", "hashCode", "toString").contains(method.getName()));
        }
    }

    private static void source(String text) {
        String code = text.replaceAll("(?s)/\\*.*?\\*/", "").replaceAll("//[^\n]*", "");
        for (String sign : BARRED) {
            Matcher found = Pattern.compile(sign).matcher(code);
            holds("the program is without " + sign, !found.find());
        }
        writtenMethods(text.split("\n"));
    }

    private static void writtenMethods(String[] lines) {
        int methods = 0;
        for (int first = 0; first < lines.length; first++) {
            Matcher head = HEAD.matcher(lines[first]);
            int last = first;
            if (head.matches()) {
                methods++;
                while (!lines[last].equals(head.group(1) + "}")) {
                    last++;
                }
                holds("a method is short, line " + (first + 1), last - first < 60);
            }
            boolean constructor = head.matches() && head.group(2) != null;
            for (; first < last; first++) {
                makesNothing(lines, first, constructor);
            }
            makesNothing(lines, first, false);
        }
        holds("the methods are found", methods > METHODS.length);
    }

    /** A call that made something would fill the room that all calls of a run share. */
    private static void makesNothing(String[] lines, int line, boolean constructor) {
        String code = lines[line].replaceAll("//.*|^ *\\*.*", "");
        holds("what is made is made in a constructor, line " + (line + 1), constructor || !code.matches(".*\\bnew\\b.*"));
    }
}
