import java.io.OutputStream;
import java.io.PrintStream;
import java.lang.reflect.Method;
import java.nio.file.Files;
import java.nio.file.Path;
import java.util.ArrayList;
import java.util.HashMap;
import java.util.List;
import java.util.Map;
import java.util.concurrent.Callable;
import java.util.concurrent.ExecutorService;
import java.util.concurrent.Executors;
import java.util.concurrent.Future;
import java.util.concurrent.TimeUnit;
import java.util.regex.Matcher;
import java.util.regex.Pattern;

/**
 * Goes through ../shared/DOC.md from its first line, by src/test/document.txt: every sentence must stand there, in its
 * order, with a test and a change of the class that breaks the sentence; the test must fail on the class so changed.
 * The first argument is the path of RepairScan.java.
 */
public final class RepairScanDocument {
    private static final Path DOCUMENT = Path.of("../shared/DOC.md");
    private static final Path TABLE = Path.of("src/test/document.txt");
    private static final int MOST_SECONDS = 300;

    private record Change(String from, String to) {
    }

    /** A test, and what is changed in the class so that the test must fail. */
    private record Breaking(int line, String test, List<Change> changes) {
    }

    private record Piece(int line, String text, boolean promises, List<Breaking> breakings, List<String> reasons) {
    }

    private static int faults = 0;

    private RepairScanDocument() {
    }

    public static void main(String[] args) throws Exception {
        String source = Files.readString(Path.of(args.length > 0 ? args[0] : "src/main/java/RepairScan.java"));
        List<Piece> pieces = read(Files.readAllLines(TABLE));
        everySentenceStandsInTheTable(pieces, Files.readString(DOCUMENT));
        everySentenceHasATest(pieces);
        everyTestPassesAsItIs(pieces, source);
        int seen = everyBreakingIsSeen(pieces, source);
        System.out.println("RepairScanDocument: " + pieces.stream().filter(Piece::promises).count()
                + " sentences, broken in " + seen + " ways, " + faults + " faults");
        // A test that does not end would keep the machine running.
        System.exit(faults != 0 || seen == 0 ? 1 : 0);
    }

    private static synchronized void fault(int line, String text) {
        faults++;
        System.out.println(TABLE + ":" + line + ": " + text);
    }

    // ---- the table

    private static List<Piece> read(List<String> lines) {
        List<Piece> pieces = new ArrayList<>();
        for (int i = 0; i < lines.size(); i++) {
            String line = lines.get(i).strip();
            if (line.isEmpty() || line.startsWith("#")) {
                continue;
            }
            int number = i + 1;
            String rest = line.substring(1).strip();
            switch (line.charAt(0)) {
                case '=' -> pieces.add(new Piece(number, rest, false, new ArrayList<>(), new ArrayList<>()));
                case '>' -> pieces.add(new Piece(number, rest, true, new ArrayList<>(), new ArrayList<>()));
                case '.' -> last(pieces).reasons.add(rest);
                case '?' -> last(pieces).breakings.add(new Breaking(number, rest, new ArrayList<>()));
                case '-' -> last(last(pieces).breakings).changes.add(new Change(rest, null));
                case '+' -> {
                    List<Change> changes = last(last(pieces).breakings).changes;
                    changes.add(new Change(changes.remove(changes.size() - 1).from, rest));
                }
                default -> fault(number, "is no line of a table: " + line);
            }
        }
        return pieces;
    }

    private static <T> T last(List<T> list) {
        return list.get(list.size() - 1);
    }

    private static void everySentenceStandsInTheTable(List<Piece> pieces, String document) {
        String left = document.replaceAll("\\s", "");
        for (Piece piece : pieces) {
            String text = piece.text.replaceAll("\\s", "");
            if (!left.startsWith(text)) {
                fault(piece.line, "the document goes on with: " + left.substring(0, Math.min(80, left.length())));
                return;
            }
            left = left.substring(text.length());
        }
        if (!left.isEmpty()) {
            fault(last(pieces).line, "the document has more: " + left.substring(0, Math.min(80, left.length())));
        }
    }

    private static void everySentenceHasATest(List<Piece> pieces) {
        for (Piece piece : pieces) {
            boolean isHeld = !piece.breakings.isEmpty();
            if (piece.promises && isHeld == !piece.reasons.isEmpty()) {
                fault(piece.line, "needs tests, or a reason why it has none: " + piece.text);
            }
            if (!piece.promises && isHeld) {
                fault(piece.line, "promises nothing, but has tests");
            }
            for (Breaking breaking : piece.breakings) {
                boolean isWhole = breaking.changes.stream().allMatch(change -> change.to != null);
                if (breaking.changes.isEmpty() || !isWhole) {
                    fault(breaking.line, "needs changes, each a line - and a line +");
                }
            }
        }
    }

    // ---- the class, broken

    /** A test that fails on the class as it is would say nothing of the broken one. */
    private static void everyTestPassesAsItIs(List<Piece> pieces, String source) throws Exception {
        Compiled loader = new Compiled("RepairScan", source);
        Map<String, Integer> known = new HashMap<>();
        PrintStream out = System.out;
        System.setOut(new PrintStream(OutputStream.nullOutputStream()));
        for (Piece piece : pieces) {
            for (Breaking breaking : piece.breakings) {
                if (!known.containsKey(breaking.test)) {
                    known.put(breaking.test, wrongIn(breaking.test, loader));
                }
            }
        }
        System.setOut(out);
        known.forEach((test, wrong) -> {
            if (wrong != 0) {
                fault(0, test + " fails on the class as it is");
            }
        });
    }

    private static int everyBreakingIsSeen(List<Piece> pieces, String source) throws Exception {
        List<Callable<Boolean>> tasks = new ArrayList<>();
        List<Breaking> all = new ArrayList<>();
        for (Piece piece : pieces) {
            for (Breaking breaking : piece.breakings) {
                all.add(breaking);
                tasks.add(() -> isSeen(breaking, source));
            }
        }
        PrintStream out = System.out;
        System.setOut(new PrintStream(OutputStream.nullOutputStream()));
        ExecutorService workers = Executors.newFixedThreadPool(Math.min(4, Runtime.getRuntime().availableProcessors()));
        List<Future<Boolean>> answers = workers.invokeAll(tasks, MOST_SECONDS, TimeUnit.SECONDS);
        System.setOut(out);
        int seen = 0;
        for (int i = 0; i < all.size(); i++) {
            Breaking breaking = all.get(i);
            try {
                if (answers.get(i).get()) {
                    seen++;
                } else {
                    fault(breaking.line, breaking.test + " passes though the class is broken");
                }
            } catch (Exception e) {
                fault(breaking.line, breaking.test + ": " + e);
            }
        }
        return seen;
    }

    private static boolean isSeen(Breaking breaking, String source) throws Exception {
        String broken = source;
        for (Change change : breaking.changes) {
            broken = changed(broken, change);
        }
        return wrongIn(breaking.test, new Compiled("RepairScan", broken)) > 0;
    }

    private static int wrongIn(String test, Compiled loader) throws Exception {
        String[] names = test.split("\\.");
        Class<?> tests = Class.forName(names[0], true, loader);
        Method wrongIn = tests.getSuperclass().getDeclaredMethod("wrongIn", Class.class, String.class);
        wrongIn.setAccessible(true);
        return (int) wrongIn.invoke(null, tests, names[1]);
    }

    /** What is between words does not count, so that a place may be named by more than one line. */
    private static String changed(String source, Change change) {
        StringBuilder pattern = new StringBuilder();
        for (String word : change.from.split("\\s+")) {
            pattern.append(pattern.length() == 0 ? "" : "\\s+").append(Pattern.quote(word));
        }
        Matcher matcher = Pattern.compile(pattern.toString()).matcher(source);
        if (!matcher.find()) {
            throw new IllegalArgumentException("the class has no: " + change.from);
        }
        int from = matcher.start();
        int to = matcher.end();
        if (matcher.find()) {
            throw new IllegalArgumentException("the class has more than one: " + change.from);
        }
        return source.substring(0, from) + change.to + source.substring(to);
    }
}
