import java.io.IOException;
import java.io.StringWriter;
import java.lang.reflect.InvocationTargetException;
import java.net.URL;
import java.net.URLClassLoader;
import java.nio.file.Files;
import java.nio.file.Path;
import java.util.ArrayList;
import java.util.Comparator;
import java.util.List;
import java.util.regex.Matcher;
import java.util.regex.Pattern;
import java.util.stream.Stream;
import javax.tools.JavaCompiler;
import javax.tools.ToolProvider;

/**
 * The example of README.md, taken out of it as it stands: it compiles, and each call answers what
 * the remark behind it says. What else README.md names (constants, calls, files) is there, too.
 */
public final class ReadmeExample {
    private static final Path README = Path.of("README.md");
    private static final Pattern BLOCK = Pattern.compile("(?s)```java\n(.*?)```");
    private static final Pattern ANSWERED =
        Pattern.compile("(x\\.\\w+\\([^;]*\\));\\s*// (-?\\d+)(?: \\((\\w+)\\))?: \\S.*");
    private static final Pattern CALL_ALONE = Pattern.compile("x\\.\\w+\\(.*");
    private static final int FEWEST_ANSWERS = 20;

    private static int wrong = 0;
    private static int answers = 0;

    private static void check(boolean holds, String what) {
        if (!holds) {
            wrong++;
            System.out.println(what);
        }
    }

    public static void main(String[] args) throws Exception {
        String page = Files.readString(README);
        checkExample(page);
        checkConstants(page);
        checkCalls(page);
        checkFiles(page);
        System.out.println(wrong == 0 ? "README.md holds, " + answers + " answers" : wrong + " of README.md are wrong");
        if (wrong != 0) {
            System.exit(1);
        }
    }

    /** Called by the compiled example, line by line. */
    public static void due(String call, long got, long want) {
        answers++;
        check(got == want, "README.md: " + call + " answered " + got + ", README.md says " + want);
    }

    private static void checkExample(String page) throws Exception {
        Matcher block = BLOCK.matcher(page);
        if (!block.find()) {
            check(false, "README.md has no example");
            return;
        }
        String program = programOf(block.group(1));
        check(!block.find(), "README.md has a second example, which no test runs");
        Path directory = Files.createTempDirectory("readme");
        try {
            if (compile(directory, program)) {
                run(directory);
            }
        } finally {
            remove(directory);
        }
        check(answers >= FEWEST_ANSWERS, "README.md's example has only " + answers + " answers");
    }

    private static String programOf(String example) {
        StringBuilder program = new StringBuilder("public final class Example {\n    public static void main(String[] a) {\n");
        for (String line : example.split("\n")) {
            Matcher answered = ANSWERED.matcher(line);
            if (answered.matches()) {
                checkName(line, answered.group(2), answered.group(3));
                program.append("ReadmeExample.due(\"").append(answered.group(1).replace("\"", "\\\"")).append("\", ")
                    .append(answered.group(1)).append(", ").append(answered.group(2)).append("L);\n");
            } else {
                check(!CALL_ALONE.matcher(line).matches(), "README.md does not say the answer: " + line);
                program.append(line).append('\n');
            }
        }
        return program.append("    }\n}\n").toString();
    }

    private static void checkName(String line, String number, String name) {
        if (name != null) {
            check(constant(name) == Integer.parseInt(number), "README.md names another constant: " + line);
        }
    }

    private static int constant(String name) {
        try {
            return RibbonOfLacks.class.getField(name).getInt(null);
        } catch (ReflectiveOperationException e) {
            check(false, "README.md names a constant that there is not: " + name);
            return 0;
        }
    }

    private static boolean compile(Path directory, String program) throws IOException {
        Path file = directory.resolve("Example.java");
        Files.writeString(file, program);
        JavaCompiler compiler = ToolProvider.getSystemJavaCompiler();
        if (compiler == null) {
            check(false, "there is no compiler beside this java");
            return false;
        }
        StringWriter said = new StringWriter();
        List<String> options = List.of("-encoding", "UTF-8", "-proc:none", "-cp", System.getProperty("java.class.path"),
            "-d", directory.toString());
        try (var files = compiler.getStandardFileManager(null, null, null)) {
            boolean compiled = compiler.getTask(said, files, null, options, null, files.getJavaFileObjects(file)).call();
            check(compiled, "README.md's example does not compile:\n" + said);
            return compiled;
        }
    }

    private static void run(Path directory) throws Exception {
        URL[] places = {directory.toUri().toURL()};
        try (URLClassLoader loader = new URLClassLoader(places, ReadmeExample.class.getClassLoader())) {
            loader.loadClass("Example").getMethod("main", String[].class).invoke(null, (Object) new String[0]);
        } catch (InvocationTargetException e) {
            check(false, "README.md's example throws " + e.getCause());
        }
    }

    private static void remove(Path directory) throws IOException {
        List<Path> all;
        try (Stream<Path> walk = Files.walk(directory)) {
            all = new ArrayList<>(walk.sorted(Comparator.reverseOrder()).toList());
        }
        for (Path path : all) {
            Files.delete(path);
        }
    }

    private static void checkConstants(String page) {
        int named = 0;
        Matcher m = Pattern.compile("`([A-Z]{2,})`\\s\\((-?\\d+)\\)").matcher(page);
        while (m.find()) {
            named++;
            check(constant(m.group(1)) == Integer.parseInt(m.group(2)), "README.md says " + m.group());
        }
        check(named == 4, "README.md names " + named + " constants of 4");
    }

    /** The table of calls has each call of the class once, and no other. */
    private static void checkCalls(String page) {
        List<String> told = new ArrayList<>();
        Matcher row = Pattern.compile("(?m)^\\|((?: `[a-z]+`)+) +\\|").matcher(page);
        while (row.find()) {
            Matcher name = Pattern.compile("`([a-z]+)`").matcher(row.group(1));
            while (name.find()) {
                told.add(name.group(1));
            }
        }
        List<String> there = new ArrayList<>();
        for (var method : RibbonOfLacks.class.getMethods()) {
            if (method.getDeclaringClass() == RibbonOfLacks.class) {
                there.add(method.getName());
            }
        }
        there.sort(null);
        told.sort(null);
        check(told.equals(there), "README.md tells the calls " + told + ", the class has " + there);
    }

    private static void checkFiles(String page) throws IOException {
        Matcher path = Pattern.compile("(?:\\.\\./shared|src|\\.ci)/[\\w/.]*\\w").matcher(page);
        while (path.find()) {
            String name = path.group();
            check(Files.exists(Path.of(name)), "README.md names a file that there is not: " + name);
        }
        check(Files.isExecutable(Path.of(".ci/run")), ".ci/run can not be run");
        try (Stream<Path> tests = Files.list(Path.of("src/test/java"))) {
            for (Path test : tests.toList()) {
                String name = test.getFileName().toString().replace(".java", "");
                check(page.contains("`" + name + "`"), "README.md does not tell of the test " + name);
            }
        }
    }
}
