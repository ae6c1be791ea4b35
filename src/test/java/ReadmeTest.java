import java.io.IOException;
import java.lang.reflect.Method;
import java.lang.reflect.Modifier;
import java.net.URL;
import java.net.URLClassLoader;
import java.nio.file.DirectoryStream;
import java.nio.file.Files;
import java.nio.file.Path;
import java.util.ArrayList;
import java.util.List;
import java.util.Set;
import java.util.TreeSet;
import java.util.regex.Matcher;
import java.util.regex.Pattern;
import javax.tools.ToolProvider;

/** What README.md tells: its calls are compiled and made, its constants, its tests and its command looked up. */
public final class ReadmeTest {
    private static final Pattern CALL = Pattern.compile("book\\.(\\w+)\\(.*\\);");
    private static final Pattern TOLD_CALL = Pattern.compile("(book\\.\\w+\\(.*\\)); +// (-?\\d+)(?:: .+)?");
    private static final Pattern CONSTANT = Pattern.compile("// (-?\\d+): PathBook\\.(\\w+)|`([A-Z_]+)` \\((-\\d+)");
    private static final Pattern TEST = Pattern.compile("(?m)^- `(\\w+)`:");

    private static int answers = 0;
    private static int wrong = 0;

    private static void holds(String what, boolean does) {
        if (!does) {
            wrong++;
            System.out.println("does not hold: " + what);
        }
    }

    /** Called by the program that is made of the calls of README.md. */
    public static void due(String call, int got, int want) {
        answers++;
        holds("README.md tells " + want + " of " + call + ", which answered " + got, got == want);
    }

    public static void main(String[] args) throws Exception {
        String readme = Files.readString(Path.of("README.md"));
        List<String> example = example(readme);
        everyCallIsTold(example);
        everyMethodIsShown(example);
        make(example);
        constants(readme);
        tests(readme);
        command(readme);
        System.out.println("ReadmeTest: " + answers + " answers, " + wrong + " things do not hold");
        if (wrong != 0) {
            System.exit(1);
        }
    }

    private static List<String> example(String readme) {
        String[] parts = readme.split("```");
        holds("there is one piece of code", parts.length == 3 && parts[1].startsWith("java\n"));
        return parts.length == 3 ? List.of(parts[1].substring(5).split("\n")) : List.of();
    }

    /** Only a call in a loop may stand without its answer. */
    private static void everyCallIsTold(List<String> example) {
        for (String line : example) {
            boolean call = CALL.matcher(line).lookingAt();
            holds("'" + line + "' tells its answer", !call || TOLD_CALL.matcher(line).matches());
        }
    }

    private static void everyMethodIsShown(List<String> example) {
        Set<String> shown = new TreeSet<>();
        for (String line : example) {
            Matcher call = CALL.matcher(line.trim());
            if (call.lookingAt()) {
                shown.add(call.group(1));
            }
        }
        for (Method method : PathBook.class.getDeclaredMethods()) {
            if (Modifier.isPublic(method.getModifiers())) {
                holds(method.getName() + " is shown", shown.contains(method.getName()));
            }
        }
    }

    private static void make(List<String> example) throws Exception {
        StringBuilder program = new StringBuilder("public final class Example {\n    public static void make() {\n");
        int told = 0;
        for (String line : example) {
            Matcher call = TOLD_CALL.matcher(line);
            if (call.matches()) {
                told++;
                String words = call.group(1).replace("\\", "\\\\").replace("\"", "\\\"");
                line = "ReadmeTest.due(\"" + words + "\", " + call.group(1) + ", " + call.group(2) + ");";
            }
            program.append(line).append('\n');
        }
        program.append("    }\n}\n");
        Path folder = Files.createTempDirectory("readme");
        Path source = folder.resolve("Example.java");
        Files.writeString(source, program);
        int failed = ToolProvider.getSystemJavaCompiler().run(null, null, null, "-encoding", "UTF-8", "-d", folder.toString(),
            "-cp", System.getProperty("java.class.path"), source.toString());
        holds("the calls can be compiled", failed == 0);
        if (failed == 0) {
            try (URLClassLoader loader = new URLClassLoader(new URL[] {folder.toUri().toURL()})) {
                loader.loadClass("Example").getMethod("make").invoke(null);
            }
            holds("all " + told + " calls were made", answers == told && told > 0);
        }
        for (Path made : filesOf(folder)) {
            Files.delete(made);
        }
        Files.delete(folder);
    }

    private static void constants(String readme) throws ReflectiveOperationException {
        Set<String> told = new TreeSet<>();
        Matcher constant = CONSTANT.matcher(readme);
        while (constant.find()) {
            boolean ofCall = constant.group(2) != null;
            String name = constant.group(ofCall ? 2 : 3);
            int value = Integer.parseInt(constant.group(ofCall ? 1 : 4));
            told.add(name);
            holds(name + " is " + value, PathBook.class.getField(name).getInt(null) == value);
        }
        holds("all constants are told: " + told, told.equals(Set.of("UNKNOWN", "BAD_VALUE", "FULL", "NOT_POSSIBLE", "NONE")));
    }

    private static void tests(String readme) throws IOException {
        Set<String> told = new TreeSet<>();
        Matcher test = TEST.matcher(readme);
        while (test.find()) {
            told.add(test.group(1));
        }
        Set<String> here = new TreeSet<>();
        for (Path file : filesOf(Path.of("src/test/java"))) {
            here.add(file.getFileName().toString().replace(".java", ""));
        }
        holds("the tests told, " + told + ", are those that are here, " + here, told.equals(here));
        for (Path file : filesOf(Path.of("src/test/support"))) {
            String name = file.getFileName().toString().replace(".java", "");
            holds("the helper " + name + " is told", readme.contains("`" + name + "`"));
        }
    }

    private static void command(String readme) {
        Matcher command = Pattern.compile("## How to run its tests\n\n {4}(\\S+)\n").matcher(readme);
        boolean named = command.find();
        holds("a command is named", named);
        holds("the command can be run", named && Files.isExecutable(Path.of(command.group(1))));
    }

    private static List<Path> filesOf(Path folder) throws IOException {
        List<Path> files = new ArrayList<>();
        try (DirectoryStream<Path> all = Files.newDirectoryStream(folder)) {
            all.forEach(files::add);
        }
        return files;
    }
}
