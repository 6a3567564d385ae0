import java.io.ByteArrayOutputStream;
import java.io.IOException;
import java.io.PrintStream;
import java.nio.charset.StandardCharsets;
import java.nio.file.Files;
import java.nio.file.Path;
import java.util.ArrayList;
import java.util.List;
import java.util.Set;
import java.util.TreeSet;
import java.util.regex.Matcher;
import java.util.regex.Pattern;

/** README.md shows a program, calls with their answers, mends with their files, and a list of tests: all must hold. */
public final class RepairScanReadme extends Checks {
    private static final Path README = Path.of("README.md");
    private static final Path TESTS = Path.of("src/test/java");
    private static final Path FACE = Path.of("../shared/DOC.md");

    private RepairScanReadme() {
    }

    public static void main(String[] args) {
        runTests(RepairScanReadme.class);
    }

    // ---- what it shows

    /** The blocks of one language, in their order. */
    private static List<String> blocks(String language) throws IOException {
        List<String> all = new ArrayList<>();
        Matcher block = Pattern.compile("(?s)```" + language + "\n(.*?)```").matcher(Files.readString(README));
        while (block.find()) {
            all.add(block.group(1));
        }
        return all;
    }

    private record Shown(String call, String answer) {
    }

    private static List<Shown> calls() throws IOException {
        List<Shown> all = new ArrayList<>();
        for (String line : blocks("java").get(1).strip().split("\n")) {
            Matcher parts = Pattern.compile("(x\\.\\w+\\(.*?\\)); +// (?:throws )?(\\w+): .+").matcher(line);
            due("a call and its answer: " + line, parts.matches(), true);
            all.add(new Shown(parts.group(1), parts.group(2)));
        }
        return all;
    }

    private static String run(String name, String source) throws Exception {
        Compiled compiled = new Compiled(name, source);
        ByteArrayOutputStream printed = new ByteArrayOutputStream();
        PrintStream out = System.out;
        System.setOut(new PrintStream(printed, true, StandardCharsets.ISO_8859_1));
        try {
            compiled.loadClass(name).getMethod("main", String[].class).invoke(null, (Object) new String[0]);
        } finally {
            System.setOut(out);
        }
        return printed.toString(StandardCharsets.ISO_8859_1);
    }

    // ---- the tests

    private static void readme_itsProgramPrintsWhatItSays() throws Exception {
        due("printed", run("Mend", blocks("java").get(0)), blocks("text").get(0));
    }

    /** The program goes on with the calls that are shown, so that they are of the very x that the page speaks of. */
    private static void readme_itsCallsAnswerAsItSays() throws Exception {
        String program = blocks("java").get(0);
        int end = program.lastIndexOf("    }\n}");
        StringBuilder source = new StringBuilder(program.substring(0, end)).append("System.out.print(\"\\n====\\n\");\n");
        StringBuilder want = new StringBuilder();
        for (Shown shown : calls()) {
            source.append("try { System.out.println(").append(shown.call).append("); } catch (RuntimeException e) {")
                    .append(" System.out.println(e.getClass().getSimpleName()); }\n");
            want.append(shown.answer).append('\n');
        }
        String printed = run("Mend", source + program.substring(end));
        due("answered", printed.substring(printed.indexOf("\n====\n") + 6), want);
    }

    private static void readme_itShowsEveryCallOfTheFace() throws IOException {
        Set<String> shown = new TreeSet<>();
        Matcher call = Pattern.compile("\\bx\\.(\\w+)\\(").matcher(String.join("\n", blocks("java")));
        while (call.find()) {
            shown.add(call.group(1));
        }
        Set<String> face = new TreeSet<>();
        Matcher method = Pattern.compile("public \\w+ (\\w+)\\(").matcher(Files.readString(FACE));
        while (method.find()) {
            face.add(method.group(1));
        }
        due("the calls", shown, face);
    }

    private static void readme_itsMendsAreTold() throws IOException {
        Matcher row = Pattern.compile("(?m)^\\| (\\d+) \\|.*\\| `([^`]*)` \\| (\\d+) at (\\d+) \\|$")
                .matcher(Files.readString(README));
        StringBuilder numbers = new StringBuilder();
        while (row.find()) {
            numbers.append(row.group(1)).append(' ');
            String mends = mends(scanned(row.group(2).replace("\\n", "\n")));
            due("the number of mend " + row.group(1), row.group(3), row.group(1));
            due("mend " + row.group(1) + " among " + mends,
                    (" " + mends + " ").contains(" " + row.group(3) + "@" + row.group(4) + " "), true);
        }
        due("all of them", numbers, "1 2 3 4 5 6 7 8 9 10 ");
    }

    private static void readme_itsLimitsHold() throws IOException {
        String page = Files.readString(README);
        due("it tells the bytes", page.contains("Up to 1,500 bytes wait"), true);
        RepairScan x = new RepairScan();
        put(x, " ".repeat(1500));
        fails("the byte behind them", UnsupportedOperationException.class, () -> {
            x.add((byte) 1);
            return 0;
        });
        due("the next bytes are a new file", x.scan() + " " + count("1 0 obj endobj"), "0 1");
        due("it tells the calls", page.contains("An object is good for 512 calls"), true);
        for (int i = 0; i < 2000; i++) {
            x.add((byte) "1 0 obj endobj ".charAt(i % 15));
            if (i % 15 == 14) {
                due("later calls are answered all the same", x.scan() + " " + x.found(1, 0), "1 0");
            }
        }
    }

    private static void readme_itNamesEveryTest() throws IOException {
        Set<String> named = new TreeSet<>();
        Matcher name = Pattern.compile("`(RepairScan\\w+|Checks|PlainRepair|Compiled)`").matcher(Files.readString(README));
        while (name.find()) {
            named.add(name.group(1));
        }
        Set<String> there = new TreeSet<>();
        try (var files = Files.list(TESTS)) {
            files.forEach(file -> there.add(file.getFileName().toString().replace(".java", "")));
        }
        due("the tests", named, there);
    }

    private static void readme_itsCommandsNameWhatIsThere() throws IOException {
        due("commands", blocks("sh"), List.of("javac -d build src/main/java/RepairScan.java Mend.java\njava -cp build Mend\n",
                ".ci/run\n"));
        due("the class", Files.isRegularFile(Path.of("src/main/java/RepairScan.java")), true);
        due("the script", Files.isExecutable(Path.of(".ci/run")), true);
        due("the table", Files.isRegularFile(Path.of("src/test/document.txt")), true);
    }
}
