import java.io.ByteArrayOutputStream;
import java.io.IOException;
import java.io.PrintStream;
import java.net.URL;
import java.net.URLClassLoader;
import java.nio.charset.StandardCharsets;
import java.nio.file.Files;
import java.nio.file.Path;
import java.util.ArrayList;
import java.util.List;
import java.util.Map;
import java.util.regex.Matcher;
import java.util.regex.Pattern;
import java.util.stream.Stream;
import javax.tools.ToolProvider;

/** The examples of README.md answer as it says, and it names what there is. */
public final class ReadmeTest {
    private static final Map<String, Integer> NAMES = Map.of("NONE", FixedFacts.NONE, "UNKNOWN", FixedFacts.UNKNOWN,
            "OUTSIDE", FixedFacts.OUTSIDE, "NOT", FixedFacts.NOT, "FULL", FixedFacts.FULL);
    private static final Pattern BLOCK = Pattern.compile("(?s)```(\\w+)\n(.*?)```");
    private static final Pattern CALL = Pattern.compile("x\\.(\\w+)\\(([^)]*)\\);\\s+// (-?\\d+|[A-Z]+)(:.*)?");

    private static Check check;

    public static void main(String[] args) throws IOException, ReflectiveOperationException {
        check = new Check("ReadmeTest");
        String readme = Texts.ofReadme();
        examplesAnswer(readme);
        programPrints(readme);
        refusalsAreNumbered(readme);
        callsAreNamed(readme);
        filesAreNamed(readme);
        check.end();
    }

    private static List<String> blocks(String readme, String kind) {
        List<String> blocks = new ArrayList<>();
        Matcher block = BLOCK.matcher(readme);
        while (block.find()) {
            if (block.group(1).equals(kind)) {
                blocks.add(block.group(2));
            }
        }
        return blocks;
    }

    private static boolean isProgram(String block) {
        return block.startsWith("public final class Try");
    }

    // ---- examples

    private static void examplesAnswer(String readme) {
        List<String> blocks = blocks(readme, "java");
        blocks.removeIf(ReadmeTest::isProgram);
        check.due("examples", blocks.size(), 5);
        for (String block : blocks) {
            String[] lines = block.split("\n");
            check.holds("it begins with a new object: " + lines[0], lines[0].equals("FixedFacts x = new FixedFacts();"));
            Counted x = new Counted();
            for (int i = 1; i < lines.length; i++) {
                lookAtLine(x, lines[i]);
            }
        }
    }

    private static void lookAtLine(Counted x, String line) {
        Matcher call = CALL.matcher(line);
        boolean fits = call.matches();
        check.holds("a call with its answer: " + line, fits);
        if (fits) {
            int[] arguments = Stream.of(call.group(2).split(", ")).filter(one -> !one.isEmpty()).mapToInt(Integer::parseInt).toArray();
            Integer named = NAMES.get(call.group(3));
            check.due(line, x.call(call.group(1), arguments), named != null ? named : Integer.parseInt(call.group(3)));
        }
    }

    /** The one whole program, compiled and run as it stands there. */
    private static void programPrints(String readme) throws IOException, ReflectiveOperationException {
        List<String> programs = blocks(readme, "java"), prints = blocks(readme, "text");
        programs.removeIf(block -> !isProgram(block));
        check.due("programs", programs.size(), 1);
        check.due("what they print", prints.size(), 1);
        Path folder = Files.createTempDirectory("readme");
        Path file = folder.resolve("Try.java");
        Files.writeString(file, programs.get(0));
        int code = ToolProvider.getSystemJavaCompiler().run(null, null, null, "-d", folder.toString(),
                Texts.CLASS.toString(), file.toString());
        check.due("it compiles", code, 0);
        check.holds("it prints what is said", code == 0 && printedBy(folder).equals(prints.get(0)));
        try (Stream<Path> made = Files.walk(folder)) {
            for (Path one : made.sorted((a, b) -> b.compareTo(a)).toList()) {
                Files.delete(one);
            }
        }
    }

    private static String printedBy(Path folder) throws IOException, ReflectiveOperationException {
        PrintStream before = System.out;
        ByteArrayOutputStream printed = new ByteArrayOutputStream();
        // no class of this test is to be seen by the program
        ClassLoader machine = ClassLoader.getPlatformClassLoader();
        try (URLClassLoader loader = new URLClassLoader(new URL[] {folder.toUri().toURL()}, machine)) {
            System.setOut(new PrintStream(printed, true, StandardCharsets.UTF_8));
            loader.loadClass("Try").getMethod("main", String[].class).invoke(null, (Object) new String[0]);
        } finally {
            System.setOut(before);
        }
        return printed.toString(StandardCharsets.UTF_8).replace(System.lineSeparator(), "\n");
    }

    // ---- what is named

    private static void refusalsAreNumbered(String readme) {
        for (Map.Entry<String, Integer> name : NAMES.entrySet()) {
            boolean isNone = name.getKey().equals("NONE");
            String words = isNone ? "`FixedFacts.NONE` (-1)" : "| `FixedFacts." + name.getKey() + "` | " + name.getValue() + " |";
            check.holds("it tells " + words, readme.contains(words));
        }
    }

    /** Each call of the document has its row, with its refusals and no other. */
    private static void callsAreNamed(String readme) throws IOException {
        String document = Texts.ofDocument();
        Matcher promise = Pattern.compile("`int (\\w+)\\(([^)]*)\\)`: (.*)").matcher(document);
        int calls = 0;
        while (promise.find()) {
            calls++;
            String head = "| `" + promise.group(1) + "(" + promise.group(2).replace("int ", "") + ")` |";
            int begin = readme.indexOf(head);
            check.holds("a row begins with " + head, begin >= 0);
            String row = readme.substring(Math.max(0, begin), readme.indexOf('\n', Math.max(0, begin)));
            String refusals = row.substring(row.lastIndexOf('|', row.length() - 2));
            for (String name : List.of("UNKNOWN", "OUTSIDE", "NOT", "FULL")) {
                boolean isPromised = Pattern.compile("\\b" + name + "\\b").matcher(promise.group(3).replace("not", "")).find();
                check.holds(head + " tells of " + name + " as the document does", refusals.contains("`" + name + "`") == isPromised);
            }
        }
        check.due("calls", calls, 25);
    }

    private static void filesAreNamed(String readme) throws IOException {
        for (Path test : Texts.tests()) {
            check.holds("it names " + test.getFileName(), readme.contains("`" + test.getFileName() + "`"));
        }
        Matcher name = Pattern.compile("`(\\w+\\.java)`").matcher(readme);
        while (name.find()) {
            check.holds("there is " + name.group(1), Files.exists(Path.of("src/test/java", name.group(1))));
        }
    }
}
