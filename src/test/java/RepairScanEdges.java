import java.util.NoSuchElementException;

/** The boundary cases of the promises 1 to 15, a test for each sentence. What they refuse is in RepairScanRefusals. */
public final class RepairScanEdges extends Checks {
    private static final int MOST = 1500;
    private static final String GOOD = "%P\n1 0 obj<</Type/Catalog/Pages 2 0 R>>endobj\n"
            + "2 0 obj<</Type/Pages/Kids[4 0 R 3 0 R]>>endobj\n3 0 obj<</Type/Page>>endobj\n"
            + "4 0 obj<</Type/Page>>endobj\ntrailer<</Root 1 0 R/Size 5>>\n";

    private RepairScanEdges() {
    }

    public static void main(String[] args) {
        runTests(RepairScanEdges.class);
    }

    /** A file of this size: one object whose data go to the end of all. */
    private static String fileOf(int size) {
        StringBuilder out = new StringBuilder("%P\n1 0 obj<<>>stream\n");
        for (int i = out.length(); i < size; i++) {
            out.append((char) (i & 255));
        }
        return out.toString();
    }

    private static final int DATA = fileOf(0).length();

    // ---- 1, 2, 3: a new object, add, scan

    private static void promise1_aNewObjectHasNothing() {
        RepairScan x = new RepairScan();
        due("all that can be asked", look(x), "|||0 0 0 0|");
        due("mends", x.mended(-1, 0) + x.twice(-1) + x.written(-1) + x.pages(), 0);
        fails("no bytes", IllegalStateException.class, x::scan);
        due("still nothing", look(x), "|||0 0 0 0|");
    }

    private static void promise1_bytesThatWaitAreNotScanned() {
        RepairScan x = new RepairScan();
        put(x, GOOD);
        due("all that can be asked", look(x), "|||0 0 0 0|");
        due("once scanned", x.scan(), 4);
    }

    private static void promise1_objectsShareNothing() {
        RepairScan x = scanned(GOOD);
        RepairScan other = scanned("5 0 obj endobj");
        other.again();
        due("the first one", x.pages() + " " + x.written(-1), "2 0");
        due("the second one", other.pages() + " " + isThere(other, 1), "0 false");
    }

    private static void promise2_takes1500BytesAndNoMore() {
        for (int size : new int[] {MOST - 1, MOST}) {
            RepairScan x = scanned(fileOf(size));
            due("of " + size, x.stream(1, -1), size - DATA);
            due("the last of " + size, x.stream(1, size - DATA - 1), (size - 1) & 255);
        }
        RepairScan full = new RepairScan();
        put(full, fileOf(MOST));
        for (int i = 0; i < 3; i++) {
            fails("one more", UnsupportedOperationException.class, () -> {
                full.add((byte) 'x');
                return 0;
            });
        }
        full.scan();
        due("none was taken", full.stream(1, -1), MOST - DATA);
        due("the last one stays", full.stream(1, MOST - DATA - 1), (MOST - 1) & 255);
    }

    private static void promise2_hasRoomFor1500BehindAScan() {
        RepairScan x = scanned(fileOf(MOST));
        put(x, fileOf(MOST));
        fails("one more", UnsupportedOperationException.class, () -> {
            x.add((byte) 'x');
            return 0;
        });
        due("scanned", x.scan(), 1);
        due("all of them", x.stream(1, -1), MOST - DATA);
    }

    private static void promise2_putsAnyByteBehindTheOthers() {
        RepairScan x = new RepairScan();
        put(x, "%P\n1 0 obj<<>>stream\n");
        for (int b = -128; b <= 127; b++) {
            x.add((byte) b);
        }
        x.scan();
        for (int b = -128; b <= 127; b++) {
            due("byte " + b, x.stream(1, b + 128), b & 255);
        }
    }

    private static void promise3_tellsHowManyObjects() {
        due("none, of one byte", count("x"), 0);
        due("none, of a byte 0", count("\0"), 0);
        due("one", count("1 0 obj endobj"), 1);
        StringBuilder all = new StringBuilder();
        for (int i = 0; i <= 61; i++) {
            all.append(i).append(" 0 obj endobj ");
        }
        due("sixty", count(all.toString()), 60);
        due("sixty, two of one number", count(all + "60 0 obj endobj"), 60);
        due("equal ones count once", count("1 0 obj endobj 1 0 obj endobj 2 0 obj endobj"), 2);
        due("one that is cut does not count", count("1 0 obj endobj 2 0 obj"), 1);
        due("1,500 bytes", count("1 0 obj endobj" + " ".repeat(MOST - 14)), 1);
    }

    private static void promise3_takesTheBytes() {
        RepairScan x = scanned(GOOD);
        String before = look(x);
        fails("there are none left", IllegalStateException.class, x::scan);
        due("all is as it was", look(x), before);
        x.add((byte) 'x');
        due("one byte is enough", x.scan(), 0);
        due("the earlier ones are no part of it", look(x), "9@0 6@0|||0 0 0 0|");
    }

    private static void promise3_beginsEachScanAnew() {
        RepairScan x = scanned("1 0 obj<</Type/Page/A 9 0 R>>endobj 1 0 obj<<>>stream\nx endstream 2 0 obj<</Type/Catalog>>"
                + " trailer<</Root 2 0 R/Size 7>> 3 0 obj");
        put(x, "%P\n7 0 obj endobj");
        due("how many", x.scan(), 1);
        due("nothing is left over", look(x), look(scanned("%P\n7 0 obj endobj")));
        RepairScan same = scanned(GOOD);
        put(same, GOOD);
        same.scan();
        due("the same file twice", look(same), look(scanned(GOOD)));
        put(same, "%P\ntrailer<<>>");
        same.scan();
        due("an empty trailer behind a full one", same.trailer(0) + " " + same.trailer(1), "0 0");
    }

    private static void promise3_forgetsTheBytesOfALongerFile() {
        String file = GOOD + "5 0 obj<</Length 3/A 9 0 R>>stream\nabc\nendstream endobj 6 0 obj(a)";
        RepairScan x = new RepairScan();
        for (int size = 1; size <= file.length(); size++) {
            for (String next : new String[] {file, file.substring(0, size), file, " ".repeat(size)}) {
                put(x, next);
                x.scan();
                due("of " + next.length() + " bytes", look(x), look(scanned(next)));
            }
        }
    }

    private static void promise3_hasRoomInEachScan() {
        String references = "1 0 obj<</A[" + "0 0 R ".repeat(240) + "]>>endobj";
        String lengths = "1 0 obj<<" + "/Length/".repeat(170) + "/Length 0>>stream\nendstream endobj";
        RepairScan x = new RepairScan();
        for (int i = 0; i < 5; i++) {
            put(x, references);
            x.scan();
            due("references", x.found(1, 4) + " " + x.mended(-1, 0) + " " + x.again(), "240 242 1");
            put(x, lengths);
            x.scan();
            due("a mend is left", x.again(), 1);
            due("pairs of Length", anew(x), "%P\n1 0 obj\n<< /Length 0 >> stream\n\nendstream\nendobj\n");
        }
    }

    // ---- 4 .. 8: found, mended, catalogue, pages, page

    private static void promise4_tellsThePlaces() {
        RepairScan first = scanned("1 0 obj endobj");
        due("a head at 0", first.found(1, 0), 0);
        due("its text", first.found(1, 1), 7);
        due("where that ends", first.found(1, 2), 8);
        String late = " ".repeat(MOST - 14) + "1 0 obj endobj";
        due("the last place of a head", scanned(late).found(1, 0), MOST - 14);
        due("the last place of an end", scanned(late).found(1, 2), MOST - 6);
        due("an end at the size", scanned(fileOf(MOST)).found(1, 2), MOST);
        due("a text of one byte", scanned("1 0 obj[2 0 obj endobj").found(1, 2), 8);
    }

    private static void promise4_tellsKindAndReferences() {
        RepairScan x = scanned("%P\n1 0 obj<</Type/Catalog>>endobj 2 0 obj<</Type/Pages/A 9 0 R>>endobj"
                + " 60 0 obj<</Type/Page/A[9 0 R 1 0 R]>>endobj 4 0 obj endobj");
        int[] numbers = {4, 1, 2, 60};
        for (int kind = 0; kind < 4; kind++) {
            due("kind", x.found(numbers[kind], 3), kind);
        }
        due("none, one, two", x.found(1, 4) + " " + x.found(2, 4) + " " + x.found(60, 4), "0 1 2");
    }

    private static void promise5_hasAnyWhatForHowMany() {
        RepairScan x = scanned("x");
        for (int what : new int[] {0, 1, 2, -1, 99, Integer.MIN_VALUE, Integer.MAX_VALUE}) {
            due("what " + what, x.mended(-1, what), 2);
            due("what " + what + " of a new object", new RepairScan().mended(-1, what), 0);
        }
        due("none", scanned(GOOD).mended(-1, 0), 0);
        due("the first", x.mended(0, 0) + "@" + x.mended(0, 1), "9@0");
        due("the last", x.mended(1, 0) + "@" + x.mended(1, 1), "6@0");
    }

    private static void promise5_hasRoomForAllMends() {
        // No bytes tell more: each eight of them a missing end and an equal number.
        int heads = MOST / 8;
        RepairScan x = scanned("1 0 obj[".repeat(heads));
        int due = 1 + (heads - 1) + (heads - 2) + 2;
        due("heads without ends", x.mended(-1, 0), due);
        due("the last but one is the cut", x.mended(due - 2, 0) + "@" + x.mended(due - 2, 1), "10@" + (heads - 1) * 8);
        due("the last", x.mended(due - 1, 0), 6);
        due("they were twice", x.twice(-1), heads - 2);
        RepairScan y = scanned("1 0 obj<</A[" + "0 0 R ".repeat(240) + "]>>endobj");
        due("references to nothing", y.mended(-1, 0), 242);
        due("the last of them", y.mended(240, 0) + "@" + y.mended(240, 1), "5@0");
        due("again of these", y.again(), 1);
    }

    private static void promise5_isOfTheLatestScan() {
        RepairScan x = scanned("1 0 obj 2 0 obj");
        due("before", mends(x), "9@0 1@8 10@8 6@0");
        put(x, GOOD);
        due("bytes that wait change nothing", x.mended(-1, 0), 4);
        x.scan();
        due("behind a good file", x.mended(-1, 0), 0);
    }

    private static void promise6_is0WhenThereIsNone() {
        due("none", scanned("%P\n1 0 obj<</Type/Pages>>endobj").catalogue(), 0);
        due("1", scanned("%P\n1 0 obj<</Type/Catalog>>endobj").catalogue(), 1);
        due("60", scanned("%P\n60 0 obj<</Type/Catalog>>endobj").catalogue(), 60);
        due("one that is cut", scanned("%P\n1 0 obj<</Type/Catalog>>").catalogue(), 0);
    }

    private static void promise7And8_tellNoneOneAndSixtyPages() {
        due("none", pageList(scanned("%P\n1 0 obj endobj")), "");
        due("one", pageList(scanned("%P\n60 0 obj<</Type/Page>>endobj")), "60");
        StringBuilder all = new StringBuilder("%P\n");
        for (int i = 60; i >= 1; i--) {
            all.append(i).append(" 0 obj<</Type/Page>>");
        }
        RepairScan x = scanned(all + "endobj");
        due("sixty", x.pages(), 60);
        due("the first and the last", x.page(0) + " " + x.page(59), "1 60");
        fails("one more", IndexOutOfBoundsException.class, () -> x.page(60));
        fails("-1 is no count here", IndexOutOfBoundsException.class, () -> x.page(-1));
        due("from 0 on, in order", pageList(scanned(GOOD)), "4 3");
    }

    // ---- 9 .. 13: cut, trailer, stream, whole, twice

    private static void promise9_is0WhenNoneWasCut() {
        due("none", scanned("%P\n1 0 obj endobj").cut(), 0);
        due("one byte less", scanned("%P\n1 0 obj endob").cut(), 1);
        due("60", scanned("%P\n60 0 obj").cut(), 60);
        due("61 is no object", scanned("%P\n61 0 obj").cut(), 0);
        due("with a stream it is not", scanned("%P\n1 0 obj<<>>stream\n").cut(), 0);
        RepairScan x = scanned("%P\n1 0 obj");
        put(x, "%P\n");
        x.scan();
        due("of the latest scan", x.cut(), 0);
    }

    private static void promise10_hasTwoKeys() {
        RepairScan x = scanned("%P\ntrailer<</Root 7 0 R/Size 9>>");
        due("0", x.trailer(0), 7);
        due("1", x.trailer(1), 9);
        fails("-1", IndexOutOfBoundsException.class, () -> x.trailer(-1));
        fails("2", IndexOutOfBoundsException.class, () -> x.trailer(2));
        due("none such", tail("trailer<</Root 7/Size(9)>>"), "0 0");
    }

    private static void promise11_tellsBytesAndHowMany() {
        RepairScan x = scanned("%P\n1 0 obj<</Length 3>>stream\n\0\377\200endstream endobj 2 0 obj<<>>stream\nendstream"
                + " 3 0 obj<<>>endobj");
        due("how many", x.stream(1, -1), 3);
        due("each, 0 .. 255", x.stream(1, 0) + " " + x.stream(1, 1) + " " + x.stream(1, 2), "0 255 128");
        fails("one more", IndexOutOfBoundsException.class, () -> x.stream(1, 3));
        due("no data", x.stream(2, -1), 0);
        fails("none of no data", IndexOutOfBoundsException.class, () -> x.stream(2, 0));
        fails("no stream", NoSuchElementException.class, () -> x.stream(3, -1));
        fails("no object", NoSuchElementException.class, () -> x.stream(4, -1));
    }

    private static void promise12_wantsEndobjAndTheLength() {
        due("endobj", scanned("%P\n1 0 obj endobj").whole(1), true);
        due("a head", scanned("%P\n1 0 obj 2 0 obj endobj").whole(1), false);
        due("trailer", scanned("%P\n1 0 obj trailer").whole(1), false);
        due("a length", scanned("%P\n1 0 obj<</Length 1>>stream\nx\nendstream endobj").whole(1), true);
        due("a wrong length", scanned("%P\n1 0 obj<</Length 0>>stream\nx\nendstream endobj").whole(1), false);
        due("the same data without a length", scanned("%P\n1 0 obj<<>>stream\nx\nendstream endobj").whole(1), false);
        due("a length, the end of all", scanned("%P\n1 0 obj<</Length 1>>stream\nx\nendstream").whole(1), false);
        due("a length, a head", scanned("%P\n1 0 obj<</Length 1>>stream\nx\nendstream 2 0 obj endobj").whole(1), false);
        due("no endstream", scanned("%P\n1 0 obj<</Length 1>>stream\nx endobj").whole(1), false);
        due("a Length without a stream means nothing", scanned("%P\n1 0 obj<</Length 5>>endobj").whole(1), true);
        due("a reference to nothing does no harm", scanned("%P\n1 0 obj<</A 9 0 R>>endobj").whole(1), true);
        due("the last of equal ones counts", scanned("%P\n1 0 obj 1 0 obj endobj").whole(1), true);
    }

    private static void promise13_tellsEachLaterOneWhenItEnds() {
        due("none", twiceList(scanned("%P\n1 0 obj endobj 2 0 obj endobj")), "");
        due("one", twiceList(scanned("%P\n1 0 obj endobj 1 0 obj endobj")), "1");
        due("each time", twiceList(scanned("%P\n1 0 obj endobj 1 0 obj endobj 1 0 obj endobj")), "1 1");
        due("in their order", twiceList(scanned("%P\n1 0 obj endobj 2 0 obj endobj 2 0 obj endobj 1 0 obj endobj")), "2 1");
        due("one that is cut does not count", twiceList(scanned("%P\n1 0 obj endobj 1 0 obj")), "");
        due("ended by the next of its number", twiceList(scanned("%P\n1 0 obj 1 0 obj 1 0 obj endobj")), "1 1");
        due("60", twiceList(scanned("%P\n60 0 obj endobj 60 0 obj endobj")), "60");
        RepairScan x = scanned("%P\n1 0 obj endobj 1 0 obj endobj");
        due("the last", x.twice(x.twice(-1) - 1), 1);
        put(x, GOOD);
        x.scan();
        due("of the latest scan", x.twice(-1), 0);
    }

    // ---- 14, 15: again, written

    private static void promise14_ofNothingScannedIsNothing() {
        RepairScan x = new RepairScan();
        due("a new object", x.again(), 0);
        due("nothing is written", x.written(-1), 0);
        put(x, GOOD);
        due("bytes that wait are not scanned", x.again(), 0);
        due("nothing is written of them", x.written(-1), 0);
        x.scan();
        due("a good file", x.again(), 0);
        due("it is written", x.written(-1) > 0, true);
    }

    private static void promise14_tellsTheMendsOfWhatIsWritten() {
        due("no catalogue: mend 6 stays", scanned("1 0 obj").again(), 1);
        due("a catalogue: none", scanned("1 0 obj<</Type/Catalog>>endobj").again(), 0);
        due("pages that are not reached: mend 8 stays", scanned("1 0 obj<</Type/Catalog>>endobj 2 0 obj<</Type/Page>>endobj")
                .again(), 1);
        due("both", scanned("2 0 obj<</Type/Page>>endobj").again(), 2);
        due("a comment at the end of a text does no harm",
                scanned("%P\n1 0 obj<</A 1>>% (\n trailer 2 0 obj<</Length 0>>stream\nendstream").again(), 1);
    }

    private static void promise14_isAside() {
        RepairScan x = scanned("1 0 obj<</A 9 0 R>> 1 0 obj<</Type/Catalog/A 9 0 R>> 2 0 obj<<>>stream\nabc");
        String before = look(x);
        due("no mends are left", x.again(), 0);
        String written = anew(x);
        due("all else is as it was", look(x).replace(written, ""), before);
        due("once more", x.again(), 0);
        due("the same is written", anew(x), written);
        RepairScan good = scanned(GOOD);
        due("pages, each time", good.again() + " " + good.again() + " " + good.again(), "0 0 0");
    }

    private static void promise14_isOfTheLatestScan() {
        RepairScan x = scanned("%P\n1 0 obj a endobj");
        x.again();
        put(x, "%P\n2 0 obj b endobj");
        x.again();
        due("bytes that wait", anew(x), "%P\n1 0 obj\na\nendobj\n");
        x.scan();
        due("scanned, but not written", anew(x), "%P\n1 0 obj\na\nendobj\n");
        x.again();
        due("written", anew(x), "%P\n2 0 obj\nb\nendobj\n");
    }

    private static void promise14_growsWithinIts3000Bytes() {
        // An object grows by 22 bytes at most and takes 27 then, so 1,500 bytes never come to 3,000.
        StringBuilder many = new StringBuilder("%P\n");
        StringBuilder want = new StringBuilder("%P\n");
        for (int i = 1; many.length() + 28 <= MOST; i++) {
            many.append(i).append(" 0 obj<<>>stream\nendstream");
            want.append(i).append(" 0 obj\n<< /Length 0 >> stream\n\nendstream\nendobj\n");
        }
        RepairScan x = scanned(many.toString());
        due("one mend is left", x.again(), 1);
        due("all of it is written", anew(x), want);
        due("which is more than came in", want.length() > 2600 && want.length() < 3000, true);
    }

    private static void promise15_tellsBytesAndHowMany() {
        RepairScan x = scanned("%P\n1 0 obj \377\200 endobj");
        due("nothing before again", x.written(-1), 0);
        fails("none of nothing", IndexOutOfBoundsException.class, () -> x.written(0));
        x.again();
        due("how many", x.written(-1), "%P\n1 0 obj\n..\nendobj\n".length());
        due("the first and the last", x.written(0) + " " + x.written(x.written(-1) - 1), "37 10");
        due("above 127", x.written(11) + " " + x.written(12), "255 128");
        fails("one more", IndexOutOfBoundsException.class, () -> x.written(x.written(-1)));
    }

    private static void promise15_isWhatWasWrittenLast() {
        RepairScan x = scanned("%P\n1 0 obj a long one endobj");
        x.again();
        put(x, "x");
        x.scan();
        due("a scan writes nothing", anew(x), "%P\n1 0 obj\na long one\nendobj\n");
        x.again();
        due("a shorter one behind it", anew(x), "%P\n");
        fails("nothing of the longer one", IndexOutOfBoundsException.class, () -> x.written(3));
    }

    private static void limits_the512thCallStillAnswers() {
        RepairScan x = new RepairScan();
        put(x, fileOf(509));
        due("the 510th", x.scan(), 1);
        due("the 511th", x.again(), 1);
        due("the 512th", x.written(-1), 3 + 8 + 25 + (509 - DATA) + 10 + 8);
    }
}
