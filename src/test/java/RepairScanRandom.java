import java.nio.charset.StandardCharsets;
import java.util.ArrayList;
import java.util.List;
import java.util.NoSuchElementException;
import java.util.Random;

/** Broken files made by chance (always the same ones), each answer held against PlainRepair's. */
public final class RepairScanRandom {
    private static final int FILES = 60000;
    private static final String[] PIECES = {
        "%P\n", "1 0 obj", "2 0 obj", "3 0 obj", "4 0 obj\n", "60 0 obj ", "61 0 obj ", "0 0 obj ", "007 5 obj ",
        "endobj", "endobj\n", " endobj ", "trailer", "trailer <<", " /Root 1 0 R", " /Root 2 0 R ", "/Root 0 0 R",
        "/Size 7", "/Size 0 ", "/Size 1 0 R", "<<", ">>", " << ", " >> ", "[", "]", "<", ">", "(", ")", "{", "}",
        "/Type /Catalog", "/Type/Pages", "/Type /Page ", "/Type /Font", "/Type (x)", "/Type", "/Pages 2 0 R ",
        "/Pages 3 0 R", "/Pages", "/Kids[3 0 R 4 0 R]", "/Kids 3 0 R", "/Kids [ << /A 3 0 R >> [ 2 0 R ] ]", "/Kids",
        "/Length 5", "/Length 0 ", "/Length 3 ", "/Length 9 0 R", "/Length", "/Length [1 0 R]", " stream\n",
        "stream\n", "stream ", "\nendstream", "endstream", "endstream\n", "hello", "abc\n", "\n", " ", "\0", "%", "% x\n",
        "1 0 R ", "9 0 R ", "3 0 R]", "0 0 R ", "999999 0 R ", "1234567 0 R ", "1 ", " 5", " 0 ", "R", "obj ", "/", "/A ",
        "/B(", "/C 1 0 R", "/D 8 0 R ", "\377\200", "null ", "1 0", " 0 obj", "endob", "<< /Length 5 >> stream\nhello\nendstream endobj ",
        "1 0 obj<</Type/Catalog/Pages 2 0 R>>endobj ", "2 0 obj<</Type/Pages/Kids[3 0 R 4 0 R]>>endobj ",
        "/Pagess 3 0 R", "/Kid[3 0 R]", "/Kidss 4 0 R", "/Lengths 5", "/Types/Page", "/Roots 2 0 R", "/Sizes 3",
        "3 0 obj<</Type/Page>>endobj ", "4 0 obj << /Type /Page /F 9 0 R >> endobj\n",
        "5 0 obj << /Length 4 /X 8 0 R >> stream\ndata\nendstream\nendobj\n", "trailer << /Root 1 0 R /Size 6 >>\n",
    };

    private static int wrong = 0;
    private static long looked = 0;

    private RepairScanRandom() {
    }

    public static void main(String[] args) {
        Random random = new Random(20261117L);
        RepairScan used = new RepairScan();
        for (int i = 0; i < FILES && wrong < 20; i++) {
            String file = i % 3 == 0 ? brokenGoodFile(random) : pieces(random, i % 3 == 1 ? 12 : 40);
            if (file.isEmpty()) {
                continue;
            }
            // Every second file goes into an object that has scanned others, so that nothing is left over.
            RepairScan scan = i % 2 == 0 ? new RepairScan() : used;
            compare(scan, file);
        }
        for (int i = 0; i < 300 && wrong < 20; i++) {
            compare(new RepairScan(), pieces(random, 200));
        }
        for (int i = 0; i < 20000 && wrong < 20; i++) {
            compare(used, signs(random));
        }
        for (int i = 0; i < 2000 && wrong < 20; i++) {
            callsByChance(random);
        }
        System.out.println("RepairScanRandom: " + looked + " answers compared, " + wrong + " wrong");
        if (wrong != 0 || looked == 0) {
            System.exit(1);
        }
    }

    private static String pieces(Random random, int most) {
        StringBuilder out = new StringBuilder(random.nextInt(3) > 0 ? "%P\n" : "");
        int count = 1 + random.nextInt(most);
        for (int i = 0; i < count; i++) {
            out.append(PIECES[random.nextInt(PIECES.length)]);
            if (random.nextInt(3) == 0) {
                out.append(random.nextBoolean() ? ' ' : '\n');
            }
        }
        return out.length() > 1500 ? out.substring(0, 1500) : out.toString();
    }

    /** Single bytes, mostly those that mean something, behind a head that makes them matter. */
    private static String signs(Random random) {
        String some = "<<>>[]()/%{}R 0 1 9\n\0\377";
        StringBuilder out = new StringBuilder(random.nextBoolean() ? "1 0 obj<<" : "trailer<<");
        int count = random.nextInt(60);
        for (int i = 0; i < count; i++) {
            out.append(random.nextInt(20) == 0 ? (char) random.nextInt(256) : some.charAt(random.nextInt(some.length())));
            if (random.nextInt(12) == 0) {
                out.append(PIECES[random.nextInt(PIECES.length)]);
            }
        }
        return out.append(random.nextBoolean() ? "endobj" : ">>stream\nx\nendstream").toString();
    }

    private static String brokenGoodFile(Random random) {
        List<String> objects = new ArrayList<>(List.of(
                "1 0 obj\n<< /Type /Catalog /Pages 2 0 R >>\nendobj\n",
                "2 0 obj <</Type/Pages/Kids[3 0 R 4 0 R 6 0 R]>> endobj\n",
                "3 0 obj<</Type /Page /Parent 2 0 R>>endobj\n",
                "4 0 obj << /Type /Page /Contents 5 0 R >> endobj\n",
                "5 0 obj << /Length 12 /F << /A [ 1 0 R 9 0 R ] >> >> stream\nBT (hi) Tj 1\nendstream\nendobj\n",
                "6 0 obj <</Type /Pages /Kids [7 0 R 2 0 R [3 0 R]]>> endobj\n",
                "7 0 obj << /Type /Page /T (1 0 obj) % 2 0 obj\n>> endobj\n",
                "8 0 obj [ 1 0 R 9 0 R ] endobj\n",
                "1 0 obj << /Type /Catalog /Pages 6 0 R >> endobj\n",
                "11 0 obj << /Type /Catalog /Pages 6 0 R >> endobj\n",
                "trailer << /Size 12 /Root 1 0 R >>\n"));
        java.util.Collections.shuffle(objects, random);
        StringBuilder out = new StringBuilder("%P\n");
        for (String object : objects.subList(0, 1 + random.nextInt(objects.size()))) {
            out.append(object);
        }
        int breaks = random.nextInt(5);
        for (int i = 0; i < breaks && out.length() > 1; i++) {
            int at = random.nextInt(out.length());
            switch (random.nextInt(6)) {
                case 0 -> out.deleteCharAt(at);
                case 1 -> out.insert(at, PIECES[random.nextInt(PIECES.length)]);
                case 2 -> out.setCharAt(at, "<>[]()/% 0159Robje\n".charAt(random.nextInt(19)));
                case 3 -> out.delete(at, Math.min(out.length(), at + random.nextInt(12)));
                case 4 -> out.setLength(at + 1);
                default -> out.insert(at, out.substring(at, Math.min(out.length(), at + random.nextInt(40))));
            }
        }
        return out.length() > 1500 ? out.substring(0, 1500) : out.toString();
    }

    private static void compare(RepairScan scan, String file) {
        for (byte b : file.getBytes(StandardCharsets.ISO_8859_1)) {
            scan.add(b);
        }
        PlainRepair plain = new PlainRepair(file);
        same(file, "scan", scan.scan(), plain.things.size());
        same(file, "mended(-1)", scan.mended(-1, 9), plain.mends.size());
        for (int i = 0; i < plain.mends.size(); i++) {
            for (int what = 0; what < 2; what++) {
                same(file, "mended " + i, scan.mended(i, what), plain.mends.get(i)[what]);
            }
        }
        same(file, "catalogue", scan.catalogue(), plain.catalogue);
        same(file, "pages", scan.pages(), plain.pages.size());
        for (int i = 0; i < plain.pages.size(); i++) {
            same(file, "page " + i, scan.page(i), plain.pages.get(i));
        }
        same(file, "cut", scan.cut(), plain.cut);
        same(file, "trailer(0)", scan.trailer(0), plain.root);
        same(file, "trailer(1)", scan.trailer(1), plain.size);
        same(file, "twice(-1)", scan.twice(-1), plain.twice.size());
        for (int i = 0; i < plain.twice.size(); i++) {
            same(file, "twice " + i, scan.twice(i), plain.twice.get(i));
        }
        for (int number = -1; number <= 62; number++) {
            compareObject(scan, plain, file, number);
        }
        compareAnew(scan, plain, file);
    }

    private static void compareObject(RepairScan scan, PlainRepair plain, String file, int number) {
        PlainRepair.Thing it = plain.things.get(number);
        String label = "object " + number + " ";
        same(file, label + "is there", isThere(scan, number), it != null ? 1 : 0);
        if (it == null || wrong > 0) {
            return;
        }
        same(file, label + "head", scan.found(number, 0), it.head);
        same(file, label + "text", scan.found(number, 1), it.text);
        same(file, label + "end", scan.found(number, 2), it.end);
        same(file, label + "kind", scan.found(number, 3), it.dictionary.kind());
        same(file, label + "references", scan.found(number, 4), it.dictionary.references().size());
        same(file, label + "whole", scan.whole(number) ? 1 : 0, it.whole ? 1 : 0);
        int count = -1;
        try {
            count = scan.stream(number, -1);
        } catch (NoSuchElementException e) {
            count = -1;
        }
        same(file, label + "data", count, it.data == null ? -1 : it.data.length());
        for (int i = 0; i < count; i++) {
            same(file, label + "byte " + i, scan.stream(number, i), it.data.charAt(i));
        }
    }

    private static int isThere(RepairScan scan, int number) {
        try {
            scan.whole(number);
            return 1;
        } catch (NoSuchElementException e) {
            return 0;
        }
    }

    private static void compareAnew(RepairScan scan, PlainRepair plain, String file) {
        String anew = plain.writtenAnew();
        same(file, "again", scan.again(), new PlainRepair(anew).mends.size());
        same(file, "written(-1)", scan.written(-1), anew.length());
        for (int i = 0; i < anew.length() && wrong == 0; i++) {
            same(file, "written " + i, scan.written(i), anew.charAt(i));
        }
        same(file, "mended(-1) behind again", scan.mended(-1, 0), plain.mends.size());
    }

    /** One object, 512 calls, any arguments; what is due is told as a text, exceptions too. */
    private static void callsByChance(Random random) {
        RepairScan scan = new RepairScan();
        StringBuilder waiting = new StringBuilder();
        PlainRepair plain = null;
        String anew = "";
        int calls = 0;
        while (calls < 512 && wrong == 0) {
            if (random.nextInt(12) == 0) {
                String piece = PIECES[random.nextInt(PIECES.length)];
                for (byte b : piece.getBytes(StandardCharsets.ISO_8859_1)) {
                    scan.add(b);
                    calls++;
                }
                waiting.append(piece);
            }
            int what = random.nextInt(40);
            calls++;
            if (what == 0) {
                String due = waiting.length() == 0 ? "IllegalStateException" : null;
                String got = answer(scan, 0, 0, 0);
                if (due == null) {
                    plain = new PlainRepair(waiting.toString());
                    waiting.setLength(0);
                    due = "" + plain.things.size();
                }
                sameText("scan", got, due);
            } else if (what == 1) {
                anew = plain == null ? "" : plain.writtenAnew();
                sameText("again", answer(scan, 1, 0, 0), plain == null ? "0" : "" + new PlainRepair(anew).mends.size());
            } else {
                int a = argument(random, what);
                int b = argument(random, what + 1);
                int call = 2 + what % 11;
                sameText("call " + call + " of " + a + ", " + b, answer(scan, call, a, b), due(plain, anew, call, a, b));
            }
        }
    }

    private static int argument(Random random, int kind) {
        return kind % 7 == 0 ? random.nextInt() : kind % 3 == 0 ? random.nextInt(70) - 3 : random.nextInt(9) - 2;
    }

    private static String answer(RepairScan scan, int call, int a, int b) {
        try {
            return switch (call) {
                case 0 -> "" + scan.scan();
                case 1 -> "" + scan.again();
                case 2 -> "" + scan.found(a, b);
                case 3 -> "" + scan.mended(a, b);
                case 4 -> "" + scan.catalogue();
                case 5 -> "" + scan.pages();
                case 6 -> "" + scan.page(a);
                case 7 -> "" + scan.cut();
                case 8 -> "" + scan.trailer(a);
                case 9 -> "" + scan.stream(a, b);
                case 10 -> "" + scan.whole(a);
                case 11 -> "" + scan.twice(a);
                default -> "" + scan.written(a);
            };
        } catch (RuntimeException e) {
            return e.getClass().getSimpleName();
        }
    }

    private static String due(PlainRepair plainOrNull, String anew, int call, int a, int b) {
        String none = "NoSuchElementException";
        String beyond = "IndexOutOfBoundsException";
        // An empty text finds nothing, but it tells mends: these are taken away.
        PlainRepair plain = plainOrNull == null ? new PlainRepair("") : plainOrNull;
        List<int[]> mends = plainOrNull == null ? List.of() : plain.mends;
        PlainRepair.Thing it = plain.things.get(a);
        return switch (call) {
            case 2 -> it == null ? none : b < 0 || b > 4 ? beyond : "" + new int[] {it.head, it.text, it.end,
                it.dictionary.kind(), it.dictionary.references().size()}[b];
            case 3 -> a == -1 ? "" + mends.size()
                    : a < 0 || a >= mends.size() || b < 0 || b > 1 ? beyond : "" + mends.get(a)[b];
            case 4 -> "" + plain.catalogue;
            case 5 -> "" + plain.pages.size();
            case 6 -> a < 0 || a >= plain.pages.size() ? beyond : "" + plain.pages.get(a);
            case 7 -> "" + plain.cut;
            case 8 -> a == 0 ? "" + plain.root : a == 1 ? "" + plain.size : beyond;
            case 9 -> it == null || it.data == null ? none : b == -1 ? "" + it.data.length()
                    : b < 0 || b >= it.data.length() ? beyond : "" + (int) it.data.charAt(b);
            case 10 -> it == null ? none : "" + it.whole;
            case 11 -> a == -1 ? "" + plain.twice.size() : a < 0 || a >= plain.twice.size() ? beyond
                    : "" + plain.twice.get(a);
            default -> a == -1 ? "" + anew.length() : a < 0 || a >= anew.length() ? beyond : "" + (int) anew.charAt(a);
        };
    }

    private static void sameText(String label, String got, String due) {
        looked++;
        if (!got.equals(due)) {
            wrong++;
            System.out.println(label + " answered " + got + ", due is " + due);
        }
    }

    private static void same(String file, String label, long got, long want) {
        looked++;
        if (got != want) {
            wrong++;
            System.out.println(label + " answered " + got + ", due is " + want + ", of " + file.replace("\n", "\\n"));
        }
    }
}
