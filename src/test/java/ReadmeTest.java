import java.io.File;
import java.io.IOException;
import java.net.URL;
import java.net.URLClassLoader;
import java.nio.file.Files;
import java.nio.file.Path;
import java.util.ArrayList;
import java.util.List;
import java.util.Set;
import java.util.TreeSet;
import java.util.regex.Matcher;
import java.util.regex.Pattern;
import java.util.stream.Stream;
import javax.tools.JavaCompiler;
import javax.tools.ToolProvider;

/** Compiles and runs the Java rows of README.md as they stand there: each must answer what stands behind it. */
public final class ReadmeTest {
    private static final Set<String> CALLS = Set.of("class0", "thing", "axiom", "remove", "fuel", "known", "ask", "run",
            "parent", "child", "equal", "empty", "open", "put", "type", "trace", "count");
    private static final Set<String> ERRORS = Set.of("UNKNOWN", "RANGE", "NOT_NOW", "FULL", "CLASH", "NONE");
    private static final Pattern BLOCK = Pattern.compile("(?ms)^```java\n(.*?)^```$");
    private static final Pattern MAKES = Pattern.compile("ClassifySort \\w+ = new ClassifySort\\(\\);");
    private static final Pattern ROW = Pattern.compile("(?:int (\\w+) = )?(x\\.(\\w+)\\([^;]*\\));\\s+// (-?\\w+)(?::.*)?");

    private static int wrong = 0;
    private static int asked = 0;

    private static void fault(String text) {
        wrong++;
        System.out.println("README.md: " + text);
    }

    /** Called by the program that README.md's rows make. */
    public static void due(String row, int got, int want) {
        asked++;
        if (got != want) {
            fault(row + " -- answered " + got);
        }
    }

    private static List<String> rowsOf(String readme) {
        List<String> rows = new ArrayList<>();
        Matcher block = BLOCK.matcher(readme);
        while (block.find()) {
            for (String row : block.group(1).split("\n")) {
                if (!row.isBlank()) {
                    rows.add(row);
                }
            }
        }
        return rows;
    }

    /** The row as it stands, and behind it the check; a row that tells no answer is a fault. */
    private static String withCheck(String row, Set<String> shown) {
        if (MAKES.matcher(row).matches()) {
            return row + "\n";
        }
        Matcher parts = ROW.matcher(row);
        if (!parts.matches()) {
            fault("no answer stands behind this row: " + row);
            return "";
        }
        shown.add(parts.group(3));
        String want = ERRORS.contains(parts.group(4)) ? "ClassifySort." + parts.group(4) : parts.group(4);
        String got = parts.group(1) == null ? parts.group(2) : parts.group(1);
        String first = parts.group(1) == null ? "" : row + "\n";
        String text = row.replace("\\", "\\\\").replace("\"", "\\\"");
        return first + "ReadmeTest.due(\"" + text + "\", " + got + ", " + want + ");\n";
    }

    private static String programOf(List<String> rows) {
        Set<String> shown = new TreeSet<>();
        StringBuilder program = new StringBuilder("public final class ReadmeRows {\npublic static void play() {\n");
        for (String row : rows) {
            program.append(withCheck(row, shown));
        }
        for (String call : CALLS) {
            if (!shown.contains(call)) {
                fault("the use of " + call + " is not shown");
            }
        }
        return program.append("}\n}\n").toString();
    }

    private static void play(String program, Path room) throws IOException, ReflectiveOperationException {
        Path source = room.resolve("ReadmeRows.java");
        Files.writeString(source, program);
        JavaCompiler javac = ToolProvider.getSystemJavaCompiler();
        String path = System.getProperty("java.class.path");
        if (javac == null || javac.run(null, null, null, "-cp", path, "-d", room.toString(), source.toString()) != 0) {
            fault("its rows do not compile");
            return;
        }
        try (URLClassLoader loader = new URLClassLoader(new URL[] {room.toUri().toURL()})) {
            loader.loadClass("ReadmeRows").getMethod("play").invoke(null);
        }
    }

    /** README.md also says how the tests are run, and what each of them is. */
    private static void checkTestsAreTold(String readme) {
        if (!readme.contains("\n.ci/run\n")) {
            fault("how to run the tests is not said");
        }
        String[] files = new File("src/test/java").list();
        for (String file : files == null ? new String[0] : files) {
            if (!readme.contains("`" + file.replace(".java", "") + "`")) {
                fault(file + " is not named");
            }
        }
    }

    private static void clear(Path room) throws IOException {
        try (Stream<Path> files = Files.list(room)) {
            for (Path file : files.toList()) {
                Files.delete(file);
            }
        }
        Files.delete(room);
    }

    public static void main(String[] args) throws IOException, ReflectiveOperationException {
        String readme = Files.readString(Path.of("README.md"));
        List<String> rows = rowsOf(readme);
        Path room = Files.createTempDirectory("readme");
        play(programOf(rows), room);
        clear(room);
        checkTestsAreTold(readme);
        if (asked < CALLS.size()) {
            fault("no more than " + asked + " rows were tried");
        }
        System.out.println(wrong == 0 ? "all rows of README.md answer as it says" : wrong + " faults");
        if (wrong != 0) {
            System.exit(1);
        }
    }
}
