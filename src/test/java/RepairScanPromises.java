import java.util.NoSuchElementException;

/** The promises 1 to 15 one by one: ordinary inputs, the edges that the document names, and wrong inputs. */
public final class RepairScanPromises extends Checks {
    private static final String CATALOGUE = "1 0 obj<</Type/Catalog/Pages 2 0 R>>endobj\n";
    private static final String PAGES = "2 0 obj<</Type/Pages/Kids[3 0 R 4 0 R]>>endobj\n";
    private static final String PAGE_3 = "3 0 obj<</Type/Page>>endobj\n";
    private static final String PAGE_4 = "4 0 obj<</Type/Page>>endobj\n";
    private static final String ROOT = "trailer<</Root 1 0 R/Size 5>>\n";
    private static final String GOOD = "%P\n" + CATALOGUE + PAGES + PAGE_3 + PAGE_4 + ROOT;

    private RepairScanPromises() {
    }

    public static void main(String[] args) {
        runTests(RepairScanPromises.class);
    }

    // ---- the promises

    private static void newObject() {
        RepairScan x = new RepairScan();
        fails("1 scan", IllegalStateException.class, x::scan);
        due("1 mended", x.mended(-1, 0), 0);
        due("1 catalogue", x.catalogue(), 0);
        due("1 pages", x.pages(), 0);
        due("1 cut", x.cut(), 0);
        due("1 trailer root", x.trailer(0), 0);
        due("1 trailer size", x.trailer(1), 0);
        due("1 twice", x.twice(-1), 0);
        due("1 written", x.written(-1), 0);
        due("1 again of nothing", x.again(), 0);
        due("1 written after again of nothing", x.written(-1), 0);
        fails("1 found", NoSuchElementException.class, () -> x.found(1, 0));
        fails("1 stream", NoSuchElementException.class, () -> x.stream(1, -1));
        fails("1 whole", NoSuchElementException.class, () -> x.whole(1) ? 1 : 0);
        fails("1 mended 0", IndexOutOfBoundsException.class, () -> x.mended(0, 0));
        fails("1 page 0", IndexOutOfBoundsException.class, () -> x.page(0));
        fails("1 twice 0", IndexOutOfBoundsException.class, () -> x.twice(0));
        fails("1 written 0", IndexOutOfBoundsException.class, () -> x.written(0));
    }

    private static void add() {
        RepairScan x = new RepairScan();
        put(x, "%P\n1 0 obj<<>>stream\n");
        int left = 1500 - 21;
        for (int i = 0; i < left; i++) {
            x.add((byte) i);
        }
        fails("2 add the 1501st", UnsupportedOperationException.class, () -> {
            x.add((byte) 65);
            return 0;
        });
        due("2 scan of 1500", x.scan(), 1);
        due("2 bytes are behind one another", x.stream(1, 5), 5);
        due("2 a byte above 127", x.stream(1, 200), 200);
        due("2 all 1500", x.stream(1, -1), left);
        due("2 the last one", x.stream(1, left - 1), (left - 1) & 255);
        put(x, "%P\n");
        due("2 there is room behind a scan", x.scan(), 0);
    }

    private static void scan() {
        RepairScan x = scanned(GOOD);
        due("3 objects", x.found(4, 3), 3);
        due("3 no mends", x.mended(-1, 0), 0);
        fails("3 the bytes are taken", IllegalStateException.class, x::scan);
        due("3 all is as it was: objects", x.found(4, 3), 3);
        due("3 all is as it was: pages", x.pages(), 2);
        due("3 all is as it was: root", x.trailer(0), 1);
        put(x, "5 0 obj endobj");
        due("3 the second scan", x.scan(), 1);
        due("3 the second scan's mends", mends(x), "9@0 6@0");
        due("3 the first one's pages are gone", x.pages(), 0);
        due("3 the first one's trailer is gone", x.trailer(0) + x.trailer(1), 0);
        due("3 the first one's catalogue is gone", x.catalogue(), 0);
        fails("3 the first one's objects are gone", NoSuchElementException.class, () -> x.found(1, 0));
        due("3 of equal ones one", count("%P 1\n1 0 obj endobj 1 0 obj endobj 2 0 obj endobj"), 2);
        due("3 one that is cut does not count", count("%P\n1 0 obj endobj 2 0 obj"), 1);
        due("3 only blanks", count("  \n"), 0);
        due("3 sixty objects", count(allObjects()), 60);
    }

    private static void tokens() {
        due("a comment hides a head", count("%P 1 0 obj endobj"), 0);
        due("a comment ends with a byte 10 alone", count("%P\r1 0 obj endobj\n2 0 obj endobj"), 1);
        due("a comment stands between tokens", count("%P\n1%x\n0%y\nobj%endobj\nendobj"), 1);
        due("a string hides a head", count("%P\n(1 0 obj endobj) 2 0 obj endobj"), 1);
        due("a string ends at the next )", count("%P\n(( 1 0 obj endobj) 2 0 obj endobj ) 3 0 obj endobj"), 2);
        due("an open string takes all", count("%P\n( 1 0 obj endobj"), 0);
        due("bytes up to 32 are blanks", count("%P\n1\0000\1obj\37endobj"), 1);
        due("a byte above 127 is regular", count("%P\n1 0 obj\200 endobj"), 0);
        due("names take regular bytes", count("%P\n/1 0 obj endobj"), 0);
        due("brackets part words", count("%P\n[1 0 obj]endobj"), 1);
        due("braces part words", count("%P\n{1 0 obj}endobj"), 1);
        due("signs part words", count("%P\n<1 0 obj>endobj)2 0 obj/endobj endobj"), 2);
        due("<<< is << and <", scanned("%P\n1 0 obj <<</A 9 0 R>>> endobj").found(1, 4), 1);
    }

    private static void heads() {
        due("1 .. 60", count("%P\n0 0 obj endobj 1 0 obj endobj 60 0 obj endobj 61 0 obj endobj"), 2);
        due("61 is no head within an object", mends(scanned("%P\n1 0 obj 61 0 obj endobj")), "6@0");
        due("0 is no head within an object", mends(scanned("%P\n1 0 obj 0 0 obj endobj")), "6@0");
        due("six digits", scanned("%P\n000007 999999 obj endobj").found(7, 0), 3);
        due("seven digits are no number", count("%P\n0000007 0 obj endobj 7 0000000 obj endobj"), 0);
        due("no sign", count("%P\n+1 0 obj endobj 1 -0 obj endobj"), 0);
        due("the last two numbers", scanned("%P\n1 2 3 obj endobj").found(2, 0), 5);
        due("another word", count("%P\n1 0 objx endobj 2 0 Obj endobj"), 0);
        due("without a blank behind", count("%P\n1 0 obj<<>>endobj"), 1);
        due("endobj is a whole word", count("%P\n1 0 obj xendobj endobjx"), 0);
    }

    private static void found() {
        RepairScan x = scanned("%P\n 7 0 obj <</Type /Page /A 7 0 R/B[7 0 R]>> endobj");
        due("4 head", x.found(7, 0), 4);
        due("4 text", x.found(7, 1), 11);
        due("4 end", x.found(7, 2), 46);
        due("4 kind", x.found(7, 3), 3);
        due("4 references", x.found(7, 4), 2);
        fails("4 what 5", IndexOutOfBoundsException.class, () -> x.found(7, 5));
        fails("4 what -1", IndexOutOfBoundsException.class, () -> x.found(7, -1));
        fails("4 no such object comes first", NoSuchElementException.class, () -> x.found(8, 5));
        for (int number : new int[] {0, -1, 61, 60, 1, Integer.MAX_VALUE, Integer.MIN_VALUE}) {
            fails("4 object " + number, NoSuchElementException.class, () -> x.found(number, 0));
        }
        RepairScan open = scanned("%P\n1 0 obj (a) 2 0 obj (b) trailer 3 0 obj<<>>stream\n\nendstream x ");
        due("4 ends at the next head", open.found(1, 2), 15);
        due("4 ends at trailer", open.found(2, 2), 27);
        due("4 ends at the size", open.found(3, 2), 66);
        due("4 mends of these", mends(open), "1@15 1@27 3@53 1@66 6@0");
        due("4 kind 1", kind("/Type /Catalog"), 1);
        due("4 kind 2", kind("/Type/Pages"), 2);
        due("4 kind 3", kind("/X 1 /Type /Page"), 3);
        due("4 kind of another name", kind("/Type /Pag"), 0);
        due("4 kind of a longer name", kind("/Type /Pagess"), 0);
        due("4 kind of another key", kind("/Typ /Page"), 0);
        due("4 kind of a string", kind("/Type (/Page)"), 0);
        due("4 kind of a row", kind("/Type [/Page]"), 0);
        due("4 kind within another", kind("/A << /Type /Page >>"), 0);
        due("4 kind without a dictionary", scanned("%P\n1 0 obj /Type /Page endobj").found(1, 3), 0);
    }

    private static void dictionaries() {
        due("the last of equal names counts", kind("/Type /Page /Type /Catalog"), 1);
        due("also when it means nothing", kind("/Type /Page /Type 5"), 0);
        due("a name before >> is passed", kind("/Type /Page /Type"), 3);
        due("a name before the end is passed", scanned("%P\n1 0 obj <</Type/Page /Type endobj").found(1, 3), 3);
        due("what is no name is passed", kind("5 (x) 1 0 R ] /Type /Page"), 3);
        due("references there are none", refs("<< 1 0 R /A 2 0 R 3 0 R >>"), 1);
        due("a value may be any token", kind("/A ] /B } /C < /D ) /E x /F /G /Type /Page"), 3);
        due("a number and no reference", kind("/A 1 /Type /Page"), 3);
        due("a reference is one value", kind("/A 1 0 R /Type /Page"), 3);
        due("rows within rows", kind("/A [ [ /Type /Page ] /Type /Page ] /Type /Catalog"), 1);
        due("dictionaries within", kind("/A << /B << /Type /Page >> /Type /Page >> /Type /Catalog"), 1);
        due("a row knows its own brackets alone", kind("/A [ << ] /Type /Page"), 3);
        due("a dictionary knows its own alone", kind("/A << [ >> /Type /Page"), 3);
        due("a row that is open goes to the end", refs("<< /A [ 1 0 R /B 2 0 R"), 2);
        due("the first token must be <<", refs("x << /A 1 0 R >>"), 0);
        due("a comment before it does no harm", refs("% x\n<< /A 1 0 R >>"), 1);
        due("behind >> it has ended", refs("<< /A 1 0 R >> << /B 2 0 R >>"), 1);
        due("a head ends it", mends(scanned("%P\n1 0 obj<</Length 5 0 obj endobj")), "1@20 6@0");
        due("a head within a row ends it", mends(scanned("%P\n1 0 obj<</A[2 0 obj endobj")), "1@15 6@0");
    }

    private static void references() {
        due("in rows and dictionaries", refs("<< /A [1 0 R << /B 2 0 R 3 0 R >>] /C << [4 0 R] >> >>"), 4);
        due("also those of equal names", refs("<< /A 1 0 R /A 2 0 R >>"), 2);
        due("also those of Length", refs("<< /Length 1 0 R >>"), 1);
        due("numbers before it", refs("<< /A [ 5 6 1 0 R ] >>"), 1);
        due("the word R alone", refs("<< /A [ 1 0 Rx 1 0 r 1 R ] >>"), 0);
        due("seven digits", refs("<< /A [ 1234567 0 R ] >>"), 0);
        due("none in strings", refs("<< /A (1 0 R) >>"), 0);
        due("none in data", scanned("%P\n1 0 obj<</Length 5>>stream\n9 0 R\nendstream endobj").found(1, 4), 0);
    }

    private static void mended() {
        RepairScan x = scanned("1 0 obj<</A 9 0 R/B[8 0 R]>> 2 0 obj<</A 0 0 R>>endobj 3 0 obj<<");
        due("5 all", mends(x), "9@0 1@29 10@55 5@0 5@0 5@29 6@0");
        due("5 how many, any what", x.mended(-1, 77), 7);
        due("5 how many, any what below", x.mended(-1, -77), 7);
        fails("5 i = how many", IndexOutOfBoundsException.class, () -> x.mended(7, 0));
        fails("5 i = -2", IndexOutOfBoundsException.class, () -> x.mended(-2, 0));
        fails("5 i = highest", IndexOutOfBoundsException.class, () -> x.mended(Integer.MAX_VALUE, 0));
        fails("5 what 2", IndexOutOfBoundsException.class, () -> x.mended(0, 2));
        fails("5 what -1", IndexOutOfBoundsException.class, () -> x.mended(0, -1));
        due("5 none", mends(scanned(GOOD)), "");
        due("5 mend 9 of one byte", mends(scanned("%")), "9@0 6@0");
        due("5 mend 9 of another beginning", mends(scanned(" %P\n")), "9@0 6@0");
        due("5 no mend 9", mends(scanned("%P")), "6@0");
        due("5 objects by number", mends(scanned("%P\n5 0 obj<</A 9 0 R>>endobj 4 0 obj<</A 9 0 R>>endobj")),
                "5@29 5@3 6@0");
        due("5 a reference to what is cut", mends(scanned("%P\n1 0 obj<</A 2 0 R>>endobj 2 0 obj")), "10@29 5@3 6@0");
        due("5 of object 60", mends(scanned("%P\n60 0 obj<</A 9 0 R>>endobj")), "5@3 6@0");
        due("5 a reference above 60", mends(scanned("%P\n1 0 obj<</A 61 0 R/B 1 0 R>>endobj")), "5@3 6@0");
    }

    private static void equalNumbers() {
        RepairScan x = scanned("%P\n1 0 obj(a)endobj 1 0 obj(b)endobj 1 0 obj(c)endobj");
        due("the last one is there", x.found(1, 0), 37);
        due("mend 4 at the earlier ones", mends(x), "4@3 4@20 6@0");
        due("mend 1 comes before mend 4", mends(scanned("%P\n1 0 obj endobj 1 0 obj 2 0 obj endobj")), "1@26 4@3 6@0");
        RepairScan last = scanned("%P\n1 0 obj endobj 1 0 obj");
        due("one that is cut leaves the earlier one", last.found(1, 0), 3);
        due("and tells no mend 4", mends(last), "10@18 6@0");
        due("what the earlier one refers to is not told",
                mends(scanned("%P\n1 0 obj<</A 9 0 R>>endobj 1 0 obj<<>>endobj")), "4@3 6@0");
    }

    private static void catalogue() {
        due("6 of the trailer", scanned(GOOD).catalogue(), 1);
        due("6 none", scanned("%P\n" + PAGES).catalogue(), 0);
        due("6 none tells mend 6", mends(scanned("%P\n2 0 obj endobj")), "6@0");
        RepairScan guessed = scanned("%P\n" + CATALOGUE + PAGES + PAGE_3 + PAGE_4);
        due("6 guessed", guessed.catalogue(), 1);
        due("6 guessed, told", mends(guessed), "6@0 7@3");
        String two = "%P\n" + "5 0 obj<</Type/Catalog>>endobj\n" + PAGES + PAGE_3 + PAGE_4;
        due("6 one with pages before", scanned(two + CATALOGUE + "9 0 obj<</Type/Catalog>>endobj").catalogue(), 1);
        due("6 of all, the last head", scanned("%P\n8 0 obj<</Type/Catalog>>endobj\n" + "5 0 obj<</Type/Catalog>>endobj")
                .catalogue(), 5);
        due("6 of those with pages, the last head", scanned("%P\n" + "8 0 obj<</Type/Catalog/Pages 2 0 R>>endobj\n"
                + CATALOGUE + PAGES).catalogue(), 1);
        due("6 without pages, mend 7", mends(scanned("%P\n5 0 obj<</Type/Catalog>>endobj")), "6@0 7@3");
        due("6 Pages of another kind", scanned("%P\n" + "5 0 obj<</Type/Catalog/Pages 2 0 R>>endobj\n"
                + "6 0 obj<</Type/Catalog/Pages 3 0 R>>endobj\n" + PAGES + PAGE_3).catalogue(), 5);
        due("6 object 60", scanned("%P\n60 0 obj<</Type/Catalog>>endobj").catalogue(), 60);
        due("6 Pages that is no reference", scanned("%P\n4 0 obj<</Type/Catalog/Pages 1>>endobj " + kids(1, "[]")
                + "5 0 obj<</Type/Catalog>>endobj").catalogue(), 5);
        due("6 no Pages at all", scanned("%P\n4 0 obj<</Type/Catalog>>endobj " + kids(1, "[]")
                + "3 0 obj<</Type/Catalog/Pages 7 0 R>>endobj").catalogue(), 3);
        due("6 a Root of another kind", mends(scanned("%P\n5 0 obj<<>>endobj trailer<</Root 5 0 R>>")), "6@0");
        due("6 a Root that is not there", mends(scanned("%P\n5 0 obj<<>>endobj trailer<</Root 6 0 R>>")), "6@0");
        due("6 a Root above 60", mends(scanned("%P\n5 0 obj<<>>endobj trailer<</Root 999999 0 R>>")), "6@0");
        due("6 a Root without pages is kept", scanned("%P\n7 0 obj<</Type/Catalog>>endobj\n" + CATALOGUE + PAGES
                + "trailer<</Root 7 0 R>>").catalogue(), 7);
    }

    private static void pages() {
        due("7 pages", scanned(GOOD).pages(), 2);
        due("8 in order", pageList(scanned(GOOD)), "3 4");
        String start = "%P\n" + CATALOGUE + ROOT + PAGE_3 + PAGE_4;
        due("8 the order of Kids", pageList(scanned(start + kids(2, "[4 0 R 3 0 R]"))), "4 3");
        due("8 each once", pageList(scanned(start + kids(2, "[4 0 R 3 0 R 4 0 R 2 0 R]"))), "4 3");
        due("8 a single reference", pageList(scanned(start + kids(2, "5 0 R") + kids(5, "[3 0 R 4 0 R]"))), "3 4");
        due("8 kids in place", pageList(scanned(start + "6 0 obj<</Type/Page>>endobj "
                + kids(2, "[6 0 R 5 0 R 3 0 R]") + kids(5, "[4 0 R 2 0 R]"))), "6 4 3");
        due("8 all in its value", pageList(scanned(start + kids(2, "[[4 0 R]<</A 3 0 R>>]"))), "4 3");
        due("8 the last Kids", pageList(scanned(start + kids(2, "[3 0 R 4 0 R]/Kids[4 0 R 3 0 R]"))), "4 3");
        due("8 Kids of another kind", pageList(scanned(start + kids(2, "[1 0 R 9 0 R 4 0 R 3 0 R]"))), "4 3");
        RepairScan lost = scanned(start + kids(2, "[4 0 R]"));
        due("8 one that is lost", pageList(lost), "3 4");
        due("8 told", mends(lost), "8@0");
        RepairScan childless = scanned("%P\n5 0 obj<</A 3 0 R>>endobj 2 0 obj<</Type/Pages>>endobj\n" + CATALOGUE + ROOT
                + PAGE_3);
        due("8 no Kids", mends(childless), "8@0");
        due("8 object 60", pageList(scanned("%P\n60 0 obj<</Type/Page>>endobj")), "60");
        due("8 no catalogue", pageList(scanned("%P\n" + PAGE_4 + PAGE_3)), "3 4");
        due("8 no catalogue, told", mends(scanned("%P\n" + PAGE_4 + PAGE_3)), "6@0 8@0");
        due("8 Pages is a page", mends(scanned("%P\n1 0 obj<</Type/Catalog/Pages 3 0 R>>endobj\n" + PAGE_3 + ROOT)), "8@0");
        due("7 no pages at all", scanned("%P\n" + CATALOGUE + PAGES + ROOT).pages(), 0);
        due("7 no mend 8 then", mends(scanned("%P\n" + CATALOGUE + kids(2, "5") + ROOT)), "");
        RepairScan chain = scanned(chainOfPages());
        due("8 a chain of kind 2", pageList(chain), "60");
        due("8 its mends", mends(chain), "");
        RepairScan x = scanned(GOOD);
        fails("8 i = how many", IndexOutOfBoundsException.class, () -> x.page(2));
        fails("8 i = -1", IndexOutOfBoundsException.class, () -> x.page(-1));
        fails("8 i = lowest", IndexOutOfBoundsException.class, () -> x.page(Integer.MIN_VALUE));
    }

    private static void cut() {
        due("9 none", scanned(GOOD).cut(), 0);
        RepairScan x = scanned("%P\n1 0 obj endobj 44 0 obj << /Type /Page >> endob");
        due("9 the one", x.cut(), 44);
        due("9 told", mends(x), "10@18 6@0");
        fails("9 it is not there", NoSuchElementException.class, () -> x.found(44, 0));
        due("9 an open string", scanned("%P\n1 0 obj ( endobj").cut(), 1);
        due("9 right behind obj", scanned("%P\n1 0 obj").cut(), 1);
        due("9 not with a stream", scanned("%P\n1 0 obj<<>>stream\nendstream").cut(), 0);
        due("9 not the one before", scanned("%P\n1 0 obj 2 0 obj").cut(), 2);
        put(x, GOOD);
        x.scan();
        due("9 of the latest scan", x.cut(), 0);
    }

    private static void trailer() {
        RepairScan x = scanned("%P\ntrailer << /Root 7 0 R /Size 12 >>");
        due("10 Root", x.trailer(0), 7);
        due("10 Size", x.trailer(1), 12);
        fails("10 key 2", IndexOutOfBoundsException.class, () -> x.trailer(2));
        fails("10 key -1", IndexOutOfBoundsException.class, () -> x.trailer(-1));
        due("10 later ones", tail("trailer<</Root 1 0 R/Size 5>> trailer<</Root 2 0 R/Size 6>>"), "2 6");
        due("10 later ones that fit", tail("trailer<</Root 1 0 R/Size 5>> trailer<</Root 2/Size 6 0 R>>"), "1 5");
        due("10 a Root above 0", tail("trailer<</Root 1 0 R>> trailer<</Root 0 0 R>>"), "1 0");
        due("10 a Size of 0", tail("trailer<</Size 5>> trailer<</Size 0>>"), "0 0");
        due("10 each by itself", tail("trailer<</Root 1 0 R>> trailer<</Size 6>>"), "1 6");
        due("10 each by itself, turned", tail("trailer<</Size 6>> trailer<</Root 1 0 R>>"), "1 6");
        due("10 a Root that is a number", tail("trailer<</Root 5>>"), "0 0");
        due("10 a Root behind that is a name", tail("trailer<</Root 3 0 R>> trailer<</Root/A>>"), "3 0");
        due("10 equal names", tail("trailer<</Root 1 0 R/Root 2 0 R/Size 5/Size(x)>>"), "2 0");
        due("10 no dictionary", tail("trailer x <</Root 1 0 R>>"), "0 0");
        due("10 no trailer", tail("<</Root 1 0 R>> trailers<</Root 1 0 R>>"), "0 0");
        due("10 open to the end of all", tail("trailer<</Size 5 endobj 3 0 obj /Root 9 0 R"), "9 5");
        due("10 a head in it is found", scanned("%P\ntrailer<</Size 5 0 obj endobj>>").found(5, 0), 18);
        due("10 its number counts all the same", tail("trailer<</Size 5 0 obj endobj>>"), "0 5");
        due("10 it ends an object", tail("3 0 obj << /A trailer<</Root 1 0 R>>"), "1 0");
        due("10 a mend then", mends(scanned("%P\n3 0 obj << /A trailer<</Root 1 0 R>>")), "1@17 6@0");
        due("10 none in data", tail("3 0 obj<<>>stream\ntrailer<</Root 1 0 R>>endstream endobj"), "0 0");
        due("10 its references are not told", mends(scanned("%P\ntrailer<</Root 9 0 R>>")), "6@0");
        due("10 its references are nobody's", scanned("%P\n1 0 obj<</A 1 0 R>>endobj trailer<</A 1 0 R>>"
                + " 2 0 obj<</A 1 0 R>>endobj").found(2, 4), 1);
        due("10 one within the other", tail("trailer<</A trailer<</Root 4 0 R>>>>"), "4 0");
    }

    private static void stream() {
        RepairScan x = scanned("%P\n1 0 obj<</Length 5>>stream\nh\351llo\nendstream endobj 2 0 obj<<>>endobj");
        due("11 how many", x.stream(1, -1), 5);
        due("11 the first", x.stream(1, 0), 104);
        due("11 above 127", x.stream(1, 1), 233);
        due("11 the last", x.stream(1, 4), 111);
        fails("11 i = how many", IndexOutOfBoundsException.class, () -> x.stream(1, 5));
        fails("11 i = -2", IndexOutOfBoundsException.class, () -> x.stream(1, -2));
        fails("11 i = highest", IndexOutOfBoundsException.class, () -> x.stream(1, Integer.MAX_VALUE));
        fails("11 no stream", NoSuchElementException.class, () -> x.stream(2, -1));
        fails("11 no stream comes first", NoSuchElementException.class, () -> x.stream(2, 99));
        fails("11 no object", NoSuchElementException.class, () -> x.stream(3, -1));
        fails("11 object 0", NoSuchElementException.class, () -> x.stream(0, -1));
        due("11 no byte 10 between", data("<</Length 5>>stream\nhelloendstream"), "hello");
        due("11 endstream in the data", data("<</Length 11>>stream\n1endstream2\nendstream"), "1endstream2");
        due("11 heads in the data", count("%P\n1 0 obj<</Length 7>>stream\n2 0 obj\nendstream endobj"), 1);
        due("11 none at all", data("<</Length 0>>stream\nendstream"), "");
        due("11 none, and a byte 10", data("<</Length 0>>stream\n\nendstream"), "");
        due("11 a byte 10 is data", data("<</Length 1>>stream\n\nendstream"), "\n");
        due("11 comment before stream", data("<</Length 1>>%\nstream\nxendstream"), "x");
        due("11 not at once a byte 10", data("<</Length 1>>stream \nxendstream"), "none");
        due("11 a byte 13 before it", data("<</Length 1>>stream\r\nxendstream"), "none");
        due("11 not next", data("<</Length 1>> x stream\nxendstream"), "none");
        due("11 no dictionary", data("stream\nxendstream"), "none");
        due("11 not the whole word", data("<</Length 1>>streams\nxendstream"), "none");
        due("11 within the dictionary", data("<</Length 1 stream\nxendstream>>"), "none");
    }

    private static void streamEnds() {
        due("up to the word", data("<<>>stream\nhello\nendstream"), "hello");
        due("less one byte 10 alone", data("<<>>stream\nhello\n\nendstream"), "hello\n");
        due("no byte 10 before the data", data("<<>>stream\nendstream"), "");
        due("only a byte 10", data("<<>>stream\n\nendstream"), "");
        due("the next one", data("<</Length 3>>stream\n1endstream2endstream"), "1");
        due("anywhere", data("<<>>stream\nxendstreamy"), "x");
        due("a Length that is a reference", data("<</Length 1 0 R>>stream\nx\nendstream"), "x");
        due("a Length too great", data("<</Length 999999>>stream\nx\nendstream"), "x");
        due("the last Length counts", mends(scanned("%P\n1 0 obj<</Length 9/Length 1>>stream\nxendstream endobj")), "6@0");
        due("mend 3", mends(scanned("%P\n1 0 obj<</Length 2>>stream\nx\ny\nendstream endobj")), "3@30 6@0");
        due("mend 3 at a byte 10 alone", data("<</Length 1>>stream\nx\nyendstream"), "x\ny");
        due("mend 3 at another byte", data("<</Length 1>>stream\nxyendstream"), "xy");
        due("mend 3 told there", mends(scanned("%P\n1 0 obj<</Length 1>>stream\nxyendstream endobj")), "3@30 6@0");
        due("endobj at once, with a byte 10", mends(scanned("%P\n1 0 obj<</Length 1>>stream\nx\nendstreamendobj")), "6@0");
        due("endobj at once, by the word", mends(scanned("%P\n1 0 obj<<>>stream\nx\nendstreamendobj")), "3@21 6@0");
        due("whatever is behind endstream", mends(scanned("%P\n1 0 obj<</Length 1>>stream\nxendstreamendobj")), "6@0");
        RepairScan x = scanned("%P\n1 0 obj<</Length 1>>stream\nabc\n");
        due("no end: mend 3, mend 2, no mend 1", mends(x), "3@30 2@30 6@0");
        due("no end: the data", x.stream(1, -1), 4);
        due("no end: it ends", x.found(1, 2), 34);
        due("no end: not cut", x.cut(), 0);
        due("no end, no data", mends(scanned("%P\n1 0 obj<<>>stream\n")), "3@21 2@21 6@0");
        due("no end of a later one", mends(scanned("%P\n1 0 obj endobj 1 0 obj<<>>stream\n")), "3@36 2@36 4@3 6@0");
        due("it goes on behind endstream", mends(scanned("%P\n1 0 obj<</Length 1>>stream\nxendstream2 0 obj endobj")),
                "1@40 6@0");
        due("mend 1 at the size", mends(scanned("%P\n1 0 obj<</Length 1>>stream\nxendstream (")), "1@42 6@0");
        due("one stream alone", data("<</Length 1>>stream\nxendstream stream\nyendstream"), "x");
    }

    private static void whole() {
        RepairScan x = scanned("%P\n1 0 obj endobj 2 0 obj 3 0 obj<</Length 1>>stream\nx\nendstream endobj"
                + " 4 0 obj<</Length 3>>stream\nx\nendstream endobj 5 0 obj<</Length 1>>stream\nx\nendstream"
                + " 6 0 obj<<>> trailer 7 0 obj<<>>stream\n");
        due("12 endobj", x.whole(1) ? 1 : 0, 1);
        due("12 a head", x.whole(2) ? 1 : 0, 0);
        due("12 its Length", x.whole(3) ? 1 : 0, 1);
        due("12 not its Length", x.whole(4) ? 1 : 0, 0);
        due("12 its Length, no endobj", x.whole(5) ? 1 : 0, 0);
        due("12 trailer", x.whole(6) ? 1 : 0, 0);
        due("12 no end", x.whole(7) ? 1 : 0, 0);
        for (int number : new int[] {0, 8, -5, 61}) {
            fails("12 object " + number, NoSuchElementException.class, () -> x.whole(number) ? 1 : 0);
        }
        due("12 a length on a byte 10 alone is as it says",
                scanned("%P\n1 0 obj<</Length 2>>stream\nx\nendstream endobj").whole(1) ? 1 : 0, 1);
    }

    private static void twice() {
        RepairScan x = scanned("%P\n5 0 obj endobj 4 0 obj endobj 4 0 obj endobj 5 0 obj endobj 5 0 obj 9 0 obj endobj"
                + " 4 0 obj");
        due("13 how many", x.twice(-1), 3);
        due("13 the first", x.twice(0), 4);
        due("13 the second", x.twice(1), 5);
        due("13 each time", x.twice(2), 5);
        fails("13 i = how many", IndexOutOfBoundsException.class, () -> x.twice(3));
        fails("13 i = -2", IndexOutOfBoundsException.class, () -> x.twice(-2));
        put(x, GOOD);
        x.scan();
        due("13 of the latest scan", x.twice(-1), 0);
    }

    private static void again() {
        RepairScan x = scanned("2 0 obj<</Type/Pages/Kids[3 0 R]>> 3 0 obj<</Type/Page/A 9 0 R>>endobj\n"
                + CATALOGUE + "5 0 obj<<>>stream\nabc");
        due("14 before", mends(x), "9@0 1@35 3@132 2@132 5@35 6@0 7@71");
        due("14 none are left", x.again(), 0);
        due("14 aside: mends", x.mended(-1, 0), 7);
        due("14 aside: places", x.found(3, 0), 35);
        due("14 aside: trailer", x.trailer(0), 0);
        due("14 without a catalogue one is left", scanned("5 0 obj endobj").again(), 1);
        due("14 references without a dictionary do not count", scanned("%P\n5 0 obj[9 0 R]endobj").again(), 1);
        put(x, "5 0 obj");
        due("14 bytes that wait do not count", x.again(), 0);
        RepairScan small = scanned("x");
        due("14 no objects", small.again(), 1);
        due("14 the beginning is written all the same", anew(small), "%P\n");
    }

    private static void written() {
        due("15 plain", anew("1 0 obj \n (a) \t 4 0 obj\0endobj"), "%P\n1 0 obj\n(a)\nendobj\n4 0 obj\n\nendobj\n");
        due("15 by number", anew("%P\n9 0 obj 9 endobj 07 3 obj 7 endobj"), "%P\n7 0 obj\n7\nendobj\n9 0 obj\n9\nendobj\n");
        due("15 with a catalogue", anew("%P\n" + "12 0 obj<</Type/Catalog>>endobj"),
                "%P\n12 0 obj\n<</Type/Catalog>>\nendobj\ntrailer << /Root 12 0 R >>\n");
        due("15 null", anew("%P\n1 0 obj<</A 9 0 R/B[1 0 R 8 % x\n7 R]>>endobj"),
                "%P\n1 0 obj\n<</A null/B[1 0 R null]>>\nendobj\n");
        due("15 only its references", anew("%P\n1 0 obj<<9 0 R/A(9 0 R)>>9 0 R endobj"),
                "%P\n1 0 obj\n<<9 0 R/A(9 0 R)>>9 0 R\nendobj\n");
        due("15 Length stays without a stream", anew("%P\n1 0 obj<</Length 5>>endobj"),
                "%P\n1 0 obj\n<</Length 5>>\nendobj\n");
        due("15 the last of equal ones", anew("%P\n1 0 obj a endobj 1 0 obj b endobj"), "%P\n1 0 obj\nb\nendobj\n");
        due("15 not what is cut", anew("%P\n1 0 obj a endobj 2 0 obj b"), "%P\n1 0 obj\na\nendobj\n");
        RepairScan x = scanned(GOOD);
        due("15 not before again", x.written(-1), 0);
        x.again();
        due("15 a byte", x.written(1), 80);
        int count = x.written(-1);
        fails("15 i = how many", IndexOutOfBoundsException.class, () -> x.written(count));
        fails("15 i = -2", IndexOutOfBoundsException.class, () -> x.written(-2));
        put(x, "%P\n1 0 obj \351 endobj");
        x.scan();
        due("15 what was written last, behind a scan", x.written(-1), count);
        x.again();
        due("15 above 127", x.written(11), 233);
    }

    private static void writtenStreams() {
        String object = "%P\n1 0 obj\n";
        due("15 a stream", anew("%P\n1 0 obj % x\n<</Length 9 0 R /A 9 0 R>>% y\nstream\nabc\nendstream z endobj"),
                object + "<< /Length 3  /A null>> stream\nabc\nendstream\nendobj\n");
        due("15 all pairs of Length", anew("%P\n1 0 obj<</Length[9 0 R]/A 1/Length 1/B<</Length 7>>/Length>>stream\n"
                + "x\nendstream endobj"), object + "<< /Length 1 /A 1/B<</Length 7>>/Length>> stream\nx\nendstream\nendobj\n");
        due("15 data as they are", anew("%P\n1 0 obj<</Length 8>>stream\n\n9 0 R\n \nendstream endobj"),
                object + "<< /Length 8 >> stream\n\n9 0 R\n \nendstream\nendobj\n");
        due("15 no data", anew("%P\n1 0 obj<<>>stream\n"), object + "<< /Length 0 >> stream\n\nendstream\nendobj\n");
        // No bytes can come to 3,000: this is how they grow most, and all of it is written.
        StringBuilder many = new StringBuilder("%P\n");
        for (int i = 8; i <= 60; i++) {
            many.append(i).append(" 0 obj<<>>stream\nendstream");
        }
        RepairScan x = scanned(many.toString());
        due("15 growth: what is left", x.again(), 1);
        due("15 growth: how much", x.written(-1), 3 + 53 * 50 - 2);
        due("15 growth: all of it", anew(x), new PlainRepair(many.toString()).writtenAnew());
    }

    private static void throwingChangesNothing() {
        RepairScan x = scanned(GOOD + "9 0 obj<<>>stream\nabc");
        x.again();
        put(x, "%P\n7 0 obj endobj");
        String before = look(x);
        for (int bad : new int[] {-2, 99, Integer.MIN_VALUE, Integer.MAX_VALUE}) {
            fails("found", NoSuchElementException.class, () -> x.found(bad, 0));
            fails("found what", IndexOutOfBoundsException.class, () -> x.found(1, bad));
            fails("mended", IndexOutOfBoundsException.class, () -> x.mended(bad, 0));
            fails("page", IndexOutOfBoundsException.class, () -> x.page(bad));
            fails("trailer", IndexOutOfBoundsException.class, () -> x.trailer(bad));
            fails("stream", NoSuchElementException.class, () -> x.stream(bad, 0));
            fails("stream i", IndexOutOfBoundsException.class, () -> x.stream(9, bad));
            fails("whole", NoSuchElementException.class, () -> x.whole(bad) ? 1 : 0);
            fails("twice", IndexOutOfBoundsException.class, () -> x.twice(bad));
            fails("written", IndexOutOfBoundsException.class, () -> x.written(bad == 99 ? 9999 : bad));
        }
        due("nothing has changed", look(x), before);
        due("the bytes that waited are there", x.scan(), 1);
        due("and none else", x.found(7, 0), 3);
        String now = look(x);
        fails("scan of none", IllegalStateException.class, x::scan);
        due("a scan of none changes nothing", look(x), now);
    }

    // ---- files

    private static String kids(int number, String value) {
        return number + " 0 obj<</Type/Pages/Kids " + value + ">>endobj\n";
    }

    private static String allObjects() {
        StringBuilder out = new StringBuilder("%P\n");
        for (int i = 61; i >= 0; i--) {
            out.append(i).append(" 0 obj endobj ");
        }
        return out.toString();
    }

    /** Each object of kind 2 has the next one as its only kid. */
    private static String chainOfPages() {
        StringBuilder out = new StringBuilder("%P\n1 0 obj<</Type/Catalog/Pages 30 0 R>>endobj trailer<</Root 1 0 R>>");
        for (int i = 30; i < 60; i++) {
            out.append(i).append(" 0 obj<</Type/Pages/Kids ").append(i + 1).append(" 0 R>>endobj ");
        }
        return out.append("60 0 obj<</Type/Page>>endobj").toString();
    }
}
