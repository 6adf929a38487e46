import java.io.ByteArrayOutputStream;
import java.io.IOException;
import java.io.PrintStream;
import java.lang.reflect.Method;
import java.lang.reflect.Modifier;
import java.net.URL;
import java.net.URLClassLoader;
import java.nio.file.Files;
import java.nio.file.Path;
import java.util.ArrayList;
import java.util.List;
import java.util.TreeSet;
import java.util.regex.Matcher;
import java.util.regex.Pattern;
import javax.tools.ToolProvider;

/** README.md tells the truth: its program prints what stands behind its lines, and its tables are right. */
public final class ReadmeTest {
    private static final Check CHECK = new Check("ReadmeTest");
    private static final Pattern PROGRAM = Pattern.compile("```java\\n(.*?)```", Pattern.DOTALL);
    private static final Pattern PRINTED = Pattern.compile("System\\.out\\.println\\(.*\\); *// (.*)");
    private static final Pattern FAULT = Pattern.compile("\\| `([^`]+)` \\| (\\d) \\| (\\d+) \\|.*");
    private static final Pattern LINE = Pattern.compile("\\| `((number|heaps|keep|apart) [^`]+)` \\| [^|]*[a-z]{2}.*");
    private static final Pattern CALL = Pattern.compile("`(\\w+)\\(([^`)]*)\\)`");

    public static void main(String[] args) throws IOException, ReflectiveOperationException {
        String readme = Files.readString(Path.of("README.md"));
        program(readme);
        faults(readme);
        lines(readme);
        calls(readme);
        CHECK.end();
    }

    private static void program(String readme) throws IOException, ReflectiveOperationException {
        Matcher found = PROGRAM.matcher(readme);
        CHECK.due("a program in README.md", found.find(), true);
        List<String> want = new ArrayList<>();
        Matcher printed = PRINTED.matcher(found.group(1));
        while (printed.find()) {
            want.add(printed.group(1).trim());
        }
        CHECK.due("lines that print", want.size() > 9, true);
        CHECK.same("the program of README.md", printedBy(found.group(1)), String.join("\n", want) + "\n");
    }

    /** What the program Sample prints, compiled against the class that is tested. */
    private static String printedBy(String source) throws IOException, ReflectiveOperationException {
        Path room = Files.createTempDirectory("readme");
        Path file = room.resolve("Sample.java");
        Path made = room.resolve("Sample.class");
        PrintStream screen = System.out;
        ByteArrayOutputStream printed = new ByteArrayOutputStream();
        try {
            Files.writeString(file, source);
            String classes = System.getProperty("java.class.path");
            int failed = ToolProvider.getSystemJavaCompiler().run(null, null, null, "-Xlint:all", "-Werror",
                "-cp", classes, "-d", room.toString(), file.toString());
            CHECK.due("the program of README.md compiles", failed, 0);
            try (URLClassLoader loader = new URLClassLoader(new URL[] {room.toUri().toURL()})) {
                System.setOut(new PrintStream(printed, true));
                loader.loadClass("Sample").getMethod("main", String[].class).invoke(null, (Object) new String[0]);
            }
        } finally {
            System.setOut(screen);
            Files.deleteIfExists(made);
            Files.deleteIfExists(file);
            Files.deleteIfExists(room);
        }
        return printed.toString().replace("\r", "");
    }

    private static void faults(String readme) {
        TreeSet<Integer> told = new TreeSet<>();
        for (String row : readme.split("\n")) {
            Matcher found = FAULT.matcher(row);
            if (found.matches()) {
                int fault = Integer.parseInt(found.group(2));
                CHECK.faulty(found.group(1), fault, Integer.parseInt(found.group(3)));
                told.add(fault);
            }
        }
        CHECK.due("FAULTS told by README.md", told.size(), 5);
    }

    /** The lines of the table together are a TEXT. */
    private static void lines(String readme) {
        List<String> told = new ArrayList<>();
        for (String row : readme.split("\n")) {
            Matcher found = LINE.matcher(row);
            if (found.matches()) {
                told.add(found.group(1));
            }
        }
        CHECK.due("LINES told by README.md", told.size(), 4);
        NumberHeaps x = CHECK.sound(String.join(";", told), 3);
        CHECK.due("3 heaps of the lines", x.about(1), 3);
        CHECK.due("3 kept by the lines", x.number(0, 2), 1);
        CHECK.due("3 apart by the lines", x.number(1, 3), 4);
    }

    /** Each call of the face stands in the table with as many arguments as it has, and no other does. */
    private static void calls(String readme) {
        TreeSet<String> told = new TreeSet<>();
        for (String row : readme.split("\n")) {
            Matcher found = CALL.matcher(row.startsWith("| `") ? row : "");
            while (found.find()) {
                int arguments = found.group(2).isEmpty() ? 0 : found.group(2).split(",").length;
                told.add(found.group(1) + " " + arguments);
            }
        }
        TreeSet<String> face = new TreeSet<>();
        for (Method m : NumberHeaps.class.getDeclaredMethods()) {
            if (Modifier.isPublic(m.getModifiers())) {
                face.add(m.getName() + " " + m.getParameterCount());
            }
        }
        CHECK.same("calls told by README.md", String.join("\n", told), String.join("\n", face));
    }
}
