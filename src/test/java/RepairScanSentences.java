import java.io.IOException;
import java.lang.reflect.Constructor;
import java.lang.reflect.Method;
import java.lang.reflect.Modifier;
import java.nio.file.Files;
import java.nio.file.Path;
import java.util.Arrays;
import java.util.TreeSet;
import java.util.regex.Matcher;
import java.util.regex.Pattern;

/**
 * Sentences of the document that speak of the whole (what it is, the public face), and those for which going through it
 * once more (see RepairScanDocument) found no test.
 */
public final class RepairScanSentences extends Checks {
    private static final Path DOCUMENT = Path.of("../shared/DOC.md");
    /** Everything that can be broken in one file, but for a stream without its end. */
    private static final String BROKEN = "~1 0 obj<</Type/Catalog/Pages 2 0 R>>endobj\n2 0 obj<</Type/Pages/Kids[3 0 R]>>\n"
            + "~3 0 obj(old)endobj\n~3 0 obj<</Type/Page/A 9 0 R>>endobj\n4 0 obj<</Type/Page>>endobj\n"
            + "5 0 obj<</Length 9>>stream\n~abc\nendstream endobj\n~6 0 obj<<";

    private RepairScanSentences() {
    }

    public static void main(String[] args) {
        runTests(RepairScanSentences.class);
    }

    // ---- what it is

    private static void whatItIs_headsAreLookedForFromTheBeginningToTheEnd() {
        due("at the very beginning and up to the very end", count("1 0 obj endobj\n2 0 obj endobj\n3 0 obj endobj"), 3);
        RepairScan x = scanned(unmarked(BROKEN));
        due("those of a broken file", isThere(x, 1) + " " + isThere(x, 5) + " " + x.cut(), "true true 6");
    }

    private static void whatItIs_eachMendIsToldWithItsPlace() {
        told("all but one", BROKEN, "9@0 1@b 4@b 3@d 10@e 5@c 6@0 7@a 8@0");
        told("the other one", "%P\n1 0 obj<<>>stream\n~abc", "3@a 2@a 6@0");
    }

    private static void whatItIs_theCatalogueIsGuessedAndThePagesAreFound() {
        RepairScan x = scanned(unmarked(BROKEN));
        due("the catalogue", x.catalogue(), 1);
        due("the pages", pageList(x), "3 4");
    }

    private static void whatItIs_theWholeIsWrittenAnew() {
        due("what was broken", anew(unmarked(BROKEN)), "%P\n1 0 obj\n<</Type/Catalog/Pages 2 0 R>>\nendobj\n"
                + "2 0 obj\n<</Type/Pages/Kids[3 0 R]>>\nendobj\n3 0 obj\n<</Type/Page/A null>>\nendobj\n"
                + "4 0 obj\n<</Type/Page>>\nendobj\n5 0 obj\n<< /Length 3 >> stream\nabc\nendstream\nendobj\n"
                + "trailer << /Root 1 0 R >>\n");
        due("what it still tells", scanned(unmarked(BROKEN)).again(), 1);
    }

    // ---- the public face

    private static void face_isTheOneOfTheDocument() throws IOException {
        Matcher block = Pattern.compile("(?s)```java\n(.*?)```").matcher(Files.readString(DOCUMENT));
        due("the document shows it", block.find(), true);
        TreeSet<String> want = new TreeSet<>();
        for (String line : block.group(1).split("\n")) {
            if (line.endsWith(";")) {
                want.add(line.strip().replaceAll("^public |;$", "").replaceAll("([(,] ?)(int|byte) \\w+", "$1$2"));
            }
        }
        due("how much it shows", want.size(), 15);
        TreeSet<String> got = new TreeSet<>();
        for (Method method : RepairScan.class.getDeclaredMethods()) {
            if (!Modifier.isPrivate(method.getModifiers())) {
                got.add(method.getReturnType() + " " + shown(method.getName(), method.getParameterTypes())
                        + thrown(method.getExceptionTypes()));
            }
        }
        for (Constructor<?> constructor : RepairScan.class.getDeclaredConstructors()) {
            got.add(shown("RepairScan", constructor.getParameterTypes()) + thrown(constructor.getExceptionTypes()));
        }
        due("the class", got, want);
        due("public and final", Modifier.toString(RepairScan.class.getModifiers()), "public final");
    }

    private static String shown(String name, Class<?>[] parameters) {
        return name + "(" + String.join(", ", Arrays.stream(parameters).map(Class::getName).toList()) + ")";
    }

    private static String thrown(Class<?>[] exceptions) {
        return exceptions.length == 0 ? ""
                : " throws " + String.join(", ", Arrays.stream(exceptions).map(Class::getSimpleName).toList());
    }
}
