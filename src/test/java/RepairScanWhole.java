/**
 * The boundary cases of the terms about the whole file, a test for each sentence: THE TRAILER, A SCAN, THE CATALOGUE,
 * THE PAGES, WRITTEN ANEW.
 */
public final class RepairScanWhole extends Checks {
    private static final String CATALOGUE = "1 0 obj<</Type/Catalog/Pages 2 0 R>>endobj ";
    private static final String ROOT = "trailer<</Root 1 0 R>>";

    private RepairScanWhole() {
    }

    public static void main(String[] args) {
        runTests(RepairScanWhole.class);
    }

    private static String catalogue(int number, String more) {
        return number + " 0 obj<</Type/Catalog" + more + ">>endobj ";
    }

    private static String pages(int number, String kids) {
        return number + " 0 obj<</Type/Pages/Kids" + kids + ">>endobj ";
    }

    private static String page(int number) {
        return number + " 0 obj<</Type/Page>>endobj ";
    }

    /** The pages of a good file whose top has these Kids, with whatever else is in it. */
    private static String pagesOf(String kids, String others) {
        RepairScan x = scanned("%P\n" + CATALOGUE + pages(2, kids) + others + ROOT);
        return pageList(x) + (mends(x).endsWith("8@0") ? " (mend 8)" : "");
    }

    // ---- the trailer

    private static void trailer_missingOrEmptyHasNothing() {
        due("none", tail("1 0 obj endobj"), "0 0");
        due("the word alone", tail("trailer"), "0 0");
        due("empty", tail("trailer<<>>"), "0 0");
        due("a dictionary without the word", tail("<</Root 1 0 R/Size 5>>"), "0 0");
        due("a longer word", tail("trailers<</Root 1 0 R/Size 5>>"), "0 0");
        due("a shorter word", tail("traile<</Root 1 0 R/Size 5>>"), "0 0");
        due("other names", tail("trailer<</Roo 1 0 R/Roots 1 0 R/Siz 5/Sizes 5/root 1 0 R>>"), "0 0");
    }

    private static void trailer_dictionaryIsItsFirstToken() {
        due("at once", tail("trailer<</Size 5>>"), "0 5");
        due("behind a comment", tail("trailer%x\n <</Size 5>>"), "0 5");
        due("behind another token", tail("trailer x<</Size 5>>"), "0 0");
        due("within a row", tail("trailer[<</Size 5>>]"), "0 0");
        due("a single <", tail("trailer< </Size 5>>"), "0 0");
    }

    private static void trailer_rootIsAReferenceAbove0() {
        due("0", tail("trailer<</Root 0 0 R>>"), "0 0");
        due("1", tail("trailer<</Root 1 0 R>>"), "1 0");
        due("60", tail("trailer<</Root 60 0 R>>"), "60 0");
        due("61 is one too", tail("trailer<</Root 61 0 R>>"), "61 0");
        due("the greatest", tail("trailer<</Root 999999 0 R>>"), "999999 0");
        due("a number", tail("trailer<</Root 1>>"), "0 0");
        due("in a row", tail("trailer<</Root[1 0 R]>>"), "0 0");
        due("in a dictionary", tail("trailer<</A<</Root 1 0 R>>>>"), "0 0");
    }

    private static void trailer_sizeIsANumber() {
        due("0 is one", tail("trailer<</Size 5>>trailer<</Size 0>>"), "0 0");
        due("1", tail("trailer<</Size 1>>"), "0 1");
        due("the greatest", tail("trailer<</Size 999999>>"), "0 999999");
        due("seven digits", tail("trailer<</Size 5>>trailer<</Size 1000000>>"), "0 5");
        due("a reference", tail("trailer<</Size 5>>trailer<</Size 6 0 R>>"), "0 5");
        due("in a row", tail("trailer<</Size 5>>trailer<</Size[6]>>"), "0 5");
    }

    private static void trailer_laterOnesThatFitCount() {
        due("both", tail("trailer<</Root 1 0 R/Size 5>>trailer<</Root 2 0 R/Size 6>>"), "2 6");
        due("three", tail("trailer<</Root 1 0 R>>trailer<</Root 2 0 R>>trailer<</Root 3 0 R>>"), "3 0");
        due("Root alone", tail("trailer<</Root 1 0 R/Size 5>>trailer<</Root 2 0 R>>"), "2 5");
        due("Size alone", tail("trailer<</Root 1 0 R/Size 5>>trailer<</Size 6>>"), "1 6");
        due("a Root that does not fit", tail("trailer<</Root 1 0 R>>trailer<</Root 0 0 R>>"), "1 0");
        due("an empty one", tail("trailer<</Root 1 0 R/Size 5>>trailer<<>>"), "1 5");
        due("one without a dictionary", tail("trailer<</Root 1 0 R/Size 5>>trailer"), "1 5");
        due("a later one need not be an object", scanned("%P\n" + CATALOGUE + ROOT + "trailer<</Root 9 0 R>>").trailer(0), 9);
    }

    private static void trailer_ofEqualNamesTheLastCounts() {
        due("both fit", tail("trailer<</Root 1 0 R/Root 2 0 R/Size 5/Size 6>>"), "2 6");
        due("the last does not fit", tail("trailer<</Root 1 0 R/Root 2/Size 5/Size 6 0 R>>"), "0 0");
        due("the last Root is 0", tail("trailer<</Root 1 0 R/Root 0 0 R>>"), "0 0");
        due("then an earlier trailer's stay", tail("trailer<</Root 3 0 R/Size 7>>trailer<</Root 1 0 R/Root 2/Size 5/Size(6)>>"),
                "3 7");
    }

    private static void trailer_withinAnObjectEndsThatAndCounts() {
        due("within the text", tail("1 0 obj x trailer<</Size 5>>"), "0 5");
        due("within the dictionary", tail("1 0 obj<</A[trailer<</Size 5>>"), "0 5");
        due("in a string it is none", tail("1 0 obj(trailer<</Size 5>>)endobj"), "0 0");
        told("the end is told", "%P\n1 0 obj<</A ~trailer<</Size 5>>", "1@a 6@0");
    }

    private static void trailer_dictionaryGoesToItsEndOrTheEndOfAll() {
        due("behind its end", tail("trailer<</A 1>>/Size 5"), "0 0");
        due("no end", tail("trailer<</A 1 /Size 5"), "0 5");
        due("endobj does not end it", tail("trailer<</A 1 endobj/Size 5>>"), "0 5");
        due("a head does not end it", tail("trailer<</A 1 3 0 obj/Size 5>>"), "0 5");
        due("trailer does not end it", tail("trailer<</A 1 trailer/Size 5>>"), "0 5");
        due("an open row takes all", tail("trailer<</A[/Size 5>>"), "0 0");
    }

    private static void trailer_whatIsBehindTheWordIsGoneThroughForHeads() {
        due("behind it", count("%P\ntrailer<<>>1 0 obj endobj"), 1);
        due("within its dictionary", count("%P\ntrailer<</A 1 0 obj endobj>>"), 1);
        due("at once behind the word", count("%P\ntrailer 1 0 obj endobj"), 1);
        due("a head without an end", scanned("%P\ntrailer<</A 1 0 obj>>").cut(), 1);
        due("in a string there is none", count("%P\ntrailer<</A(1 0 obj endobj)>>"), 0);
    }

    private static void trailer_itsReferencesAreNoObjects() {
        told("none is told", "%P\n1 0 obj endobj trailer<</Root 9 0 R/A[8 0 R]>>", "6@0");
        due("none is counted", scanned("%P\n1 0 obj<</A 1 0 R>>endobj trailer<</Root 1 0 R>>").found(1, 4), 1);
        due("however often they are read", scanned("%P\n" + "trailer<</A[".repeat(20) + "0 0 R ".repeat(100)
                + "1 0 obj<</A 9 0 R>>endobj").found(1, 4), 1);
        due("its pairs of Length neither", anew("%P\n" + "trailer<<".repeat(20) + "/Length/".repeat(80)
                + " 1 0 obj<</Length 0/A 1>>stream\nendstream endobj"),
                "%P\n1 0 obj\n<< /Length 0 /A 1>> stream\n\nendstream\nendobj\n");
    }

    // ---- a scan

    private static void scan_tellsMend9UnlessTheBytesBeginWithIt() {
        told("%P alone", "%P", "6@0");
        for (String file : new String[] {"%", "P", "P%", "%p", "%Q", " %P", "\n%P", "%%P", "% P"}) {
            told(file, file, "9@0 6@0");
        }
        told("more behind it", "%PDF", "6@0");
        told("first of all", "~1 0 obj ~2 0 obj", "9@0 1@b 10@b 6@0");
    }

    private static void scan_tellsMend5ForEachReferenceToNothing() {
        told("none", "%P\n1 0 obj<</A 1 0 R>>endobj", "6@0");
        told("one", "%P\n~1 0 obj<</A 2 0 R>>endobj", "5@a 6@0");
        told("the same twice", "%P\n~1 0 obj<</A 2 0 R/B 2 0 R>>endobj", "5@a 5@a 6@0");
        told("to 0", "%P\n~1 0 obj<</A 0 0 R>>endobj", "5@a 6@0");
        told("to 60", "%P\n1 0 obj<</A 60 0 R>>endobj 60 0 obj endobj", "6@0");
        told("to 61", "%P\n~1 0 obj<</A 61 0 R>>endobj 61 0 obj endobj", "5@a 6@0");
        told("to the greatest", "%P\n~1 0 obj<</A 999999 0 R>>endobj", "5@a 6@0");
        told("to one that is cut", "%P\n~1 0 obj<</A 2 0 R>>endobj ~2 0 obj", "10@b 5@a 6@0");
        told("to a later one", "%P\n1 0 obj<</A 2 0 R>>endobj 2 0 obj endobj", "6@0");
    }

    private static void scan_looksAtTheObjectsByTheirNumbers() {
        told("the later head first", "%P\n~2 0 obj<</A 9 0 R>>endobj ~1 0 obj<</A 9 0 R>>endobj", "5@b 5@a 6@0");
        told("1 and 60", "%P\n~60 0 obj<</A 9 0 R>>endobj ~1 0 obj<</A 9 0 R>>endobj", "5@b 5@a 6@0");
        told("not at an earlier one of its number", "%P\n~1 0 obj<</A 9 0 R>>endobj 1 0 obj endobj", "4@a 6@0");
        told("behind all that the bytes tell", "%P\n~1 0 obj<</A 9 0 R>> ~2 0 obj endobj ~3 0 obj", "1@b 10@c 5@a 6@0");
    }

    // ---- the catalogue

    private static void catalogue_isTheRootIfThatIsOfKind1() {
        due("it is", scanned("%P\n" + catalogue(1, "") + ROOT).catalogue(), 1);
        told("it is", "%P\n" + catalogue(1, "") + ROOT, "");
        told("it is of kind 2", "%P\n" + pages(1, "[]") + ROOT, "6@0");
        told("it is of kind 3", "%P\n" + page(1) + ROOT, "6@0 8@0");
        told("it is of kind 0", "%P\n1 0 obj<<>>endobj " + ROOT, "6@0");
        told("it is not there", "%P\n" + ROOT, "6@0");
        told("it was cut", "%P\n" + ROOT + " ~1 0 obj<</Type/Catalog>>", "10@a 6@0");
        due("60", scanned("%P\n" + catalogue(60, "") + "trailer<</Root 60 0 R>>").catalogue(), 60);
        told("61", "%P\n61 0 obj<</Type/Catalog>>endobj trailer<</Root 61 0 R>>", "6@0");
        due("also without pages, before one with", scanned("%P\n" + catalogue(1, "") + pages(2, "[]")
                + catalogue(3, "/Pages 2 0 R") + ROOT).catalogue(), 1);
    }

    private static void catalogue_noneTellsMend6Alone() {
        told("no object", "%P\n", "6@0");
        told("none of kind 1", "%P\n1 0 obj endobj", "6@0");
        due("none", scanned("%P\n1 0 obj endobj").catalogue(), 0);
        told("one of kind 1", "%P\n~" + catalogue(1, ""), "6@0 7@a");
        due("one", scanned("%P\n" + catalogue(1, "")).catalogue(), 1);
    }

    private static void catalogue_guessedIsTheLastHeadOfThoseWithPages() {
        String pages = pages(2, "[]");
        due("one", scanned("%P\n" + pages + catalogue(5, "/Pages 2 0 R")).catalogue(), 5);
        due("two, the greater number last", scanned("%P\n" + pages + catalogue(5, "/Pages 2 0 R")
                + catalogue(6, "/Pages 2 0 R")).catalogue(), 6);
        due("two, the smaller number last", scanned("%P\n" + pages + catalogue(6, "/Pages 2 0 R")
                + catalogue(5, "/Pages 2 0 R")).catalogue(), 5);
        due("before one without that is later", scanned("%P\n" + pages + catalogue(5, "/Pages 2 0 R")
                + catalogue(6, "")).catalogue(), 5);
        due("also when it is 1", scanned("%P\n" + pages + catalogue(1, "/Pages 2 0 R") + catalogue(6, "")).catalogue(), 1);
        told("mend 7 at its head", "%P\n" + pages + "~" + catalogue(5, "/Pages 2 0 R") + catalogue(6, ""), "6@0 7@a");
    }

    private static void catalogue_withPagesMeansAnObjectOfKind2() {
        String other = catalogue(7, "");
        due("of kind 2", guess("/Pages 2 0 R", pages(2, "[]")), 5);
        due("of kind 3", guess("/Pages 2 0 R", page(2)), 7);
        due("of kind 1", guess("/Pages 7 0 R", ""), 7);
        due("of kind 0", guess("/Pages 2 0 R", "2 0 obj endobj "), 7);
        due("not there", guess("/Pages 2 0 R", ""), 7);
        due("a number", guess("/Pages 2", pages(2, "[]")), 7);
        due("a number, and 1 is of kind 2", guess("/Pages 2", pages(1, "[]")), 7);
        due("none, and 1 is of kind 2", scanned("%P\n" + pages(1, "[]") + catalogue(5, "")
                + catalogue(4, "/Pages 9 0 R")).catalogue(), 4);
        due("in a row", guess("/Pages[2 0 R]", pages(2, "[]")), 7);
        due("the last of equal names", guess("/Pages 2 0 R/Pages 9 0 R", pages(2, "[]")), 7);
        due("of that very name", guess("/Page 2 0 R/Pagess 2 0 R/pages 2 0 R", pages(2, "[]")), 7);
        due("others do not hide it", guess("/Pages 2 0 R/Page 9 0 R/Pagess 9 0 R/pages 9 0 R", pages(2, "[]")), 5);
        due("the other one is told then", mends(scanned("%P\n" + other)), "6@0 7@3");
    }

    /** Object 5 has this and comes first, object 7 has no Pages and comes last. */
    private static int guess(String more, String others) {
        return scanned("%P\n" + catalogue(5, more) + others + catalogue(7, "")).catalogue();
    }

    private static void catalogue_guessedOfAllIsTheLastHead() {
        due("the greater number last", scanned("%P\n" + catalogue(5, "") + catalogue(6, "")).catalogue(), 6);
        due("the smaller number last", scanned("%P\n" + catalogue(6, "") + catalogue(5, "")).catalogue(), 5);
        told("mend 7 at its head", "%P\n" + catalogue(6, "") + "~" + catalogue(5, ""), "6@0 7@a");
    }

    // ---- the pages

    private static void pages_areThereWhenTheTopIsOfKind2() {
        due("it is", pagesOf("[3 0 R]", page(3)), "3");
        told("it is of kind 3", "%P\n" + catalogue(1, "/Pages 3 0 R") + page(3) + ROOT, "8@0");
        told("it is not there", "%P\n~" + catalogue(1, "/Pages 9 0 R") + page(3) + ROOT, "5@a 8@0");
        told("there is no Pages", "%P\n" + catalogue(1, "") + page(3) + ROOT, "8@0");
        told("there is no catalogue", "%P\n" + page(3), "6@0 8@0");
        told("a catalogue that was guessed counts", "%P\n~" + CATALOGUE + pages(2, "[3 0 R]") + page(3), "6@0 7@a");
    }

    private static void pages_noneAtAllTellNoMend8() {
        due("no Kids in the row", pagesOf("[]", ""), "");
        told("no Kids at all, though others have references", "%P\n9 0 obj<</A 3 0 R>>endobj " + CATALOGUE
                + "2 0 obj<</Type/Pages>>endobj " + page(3) + ROOT, "8@0");
        due("Kids is a number", pagesOf(" 3", ""), "");
        told("no object at all", "%P\n", "6@0");
        due("one that is not reached", pagesOf("[]", page(3)), "3 (mend 8)");
    }

    private static void pages_areInTheOrderOfKids() {
        due("by their numbers", pagesOf("[3 0 R 4 0 R]", page(3) + page(4)), "3 4");
        due("the other way", pagesOf("[4 0 R 3 0 R]", page(3) + page(4)), "4 3");
        due("one Kid without a row", pagesOf(" 3 0 R", page(3)), "3");
        due("all in its value", pagesOf("[[4 0 R]<</A[3 0 R]>>]", page(3) + page(4)), "4 3");
        due("of equal names the last", pagesOf("[3 0 R 4 0 R]/Kids[4 0 R 3 0 R]", page(3) + page(4)), "4 3");
        due("other values are none", pagesOf("[3 0 R]/Kid[4 0 R]", page(3) + page(4)), "3 4 (mend 8)");
        due("nor do they hide Kids", pagesOf("[4 0 R 3 0 R]/Kid[3 0 R 4 0 R]/Kidss[3 0 R 4 0 R]/kids[3 0 R 4 0 R]",
                page(3) + page(4)), "4 3");
        due("of another kind or nothing", pagesOf("[1 0 R 9 0 R 0 0 R 61 0 R 3 0 R]", page(3)), "3");
    }

    private static void pages_ofKind2AreTheirKidsInPlace() {
        due("between", pagesOf("[3 0 R 6 0 R 5 0 R]", pages(6, "[4 0 R]") + page(3) + page(4) + page(5)), "3 4 5");
        due("first", pagesOf("[6 0 R 3 0 R]", pages(6, "[5 0 R 4 0 R]") + page(3) + page(4) + page(5)), "5 4 3");
        due("without Kids", pagesOf("[6 0 R 3 0 R]", pages(6, "[]") + page(3)), "3");
        String kids = "/Kids[4 0 R]>>endobj ";
        due("Kids of kind 0 are none", pagesOf("[6 0 R 3 0 R]", "6 0 obj<<" + kids + page(3) + page(4)), "3 4 (mend 8)");
        due("Kids of kind 1 are none", pagesOf("[6 0 R 3 0 R]", "6 0 obj<</Type/Catalog" + kids + page(3) + page(4)),
                "3 4 (mend 8)");
        due("Kids of a page are none", pagesOf("[5 0 R 3 0 R]", "5 0 obj<</Type/Page" + kids + page(3) + page(4)),
                "3 4 5 (mend 8)");
        due("the greatest and the least number", pagesOf("[60 0 R]", pages(60, "[59 0 R]") + page(59)), "59");
    }

    private static void pages_takeEachObjectOnce() {
        due("a page twice", pagesOf("[3 0 R 3 0 R]", page(3)), "3");
        due("its first place counts", pagesOf("[4 0 R 3 0 R 4 0 R]", page(3) + page(4)), "4 3");
        due("the top in its own Kids", pagesOf("[2 0 R 3 0 R]", page(3)), "3");
        due("the top in the Kids of a Kid", pagesOf("[6 0 R 3 0 R]", pages(6, "[4 0 R 2 0 R]") + page(3) + page(4)), "4 3");
        due("one of kind 2 twice", pagesOf("[6 0 R 4 0 R 6 0 R]", pages(6, "[3 0 R]") + page(3) + page(4)), "3 4");
    }

    private static void pages_goAsDeepAsTheBytesDo() {
        // Each has the next one as its only Kid; without endobj more of them fit in.
        StringBuilder chain = new StringBuilder();
        for (int i = 3; i < 38; i++) {
            chain.append(i).append(" 0 obj<</Type/Pages/Kids ").append(i + 1).append(" 0 R>>");
        }
        due("36 deep", pagesOf("[3 0 R]", chain + page(38)), "38");
        due("round", pagesOf("[3 0 R]", chain + pages(38, "[2 0 R]")), "");
    }

    private static void pages_ofWhichOneIsMissingAreAllByNumber() {
        due("all are reached", pagesOf("[5 0 R 3 0 R]", page(3) + page(5)), "5 3");
        due("one is not", pagesOf("[5 0 R 3 0 R]", page(3) + page(4) + page(5)), "3 4 5 (mend 8)");
        due("none is", pagesOf("[]", page(4) + page(3)), "3 4 (mend 8)");
        due("1 and 60", pageList(scanned("%P\n" + page(60) + page(1))), "1 60");
        due("one that is cut is none of them", pagesOf("[3 0 R]", page(3)), "3");
        due("cut at the end of all", scanned("%P\n" + CATALOGUE + pages(2, "[3 0 R]") + page(3) + ROOT
                + " 4 0 obj<</Type/Page>>").pages(), 1);
    }

    // ---- written anew

    private static void writtenAnew_ofNoObjectsIsTheBeginningAlone() {
        due("a comment", anew("%P"), "%P\n");
        due("one byte", anew("x"), "%P\n");
        due("a trailer", anew("%P\ntrailer<</Root 1 0 R/Size 5>>"), "%P\n");
        due("one that is cut", anew("%P\n1 0 obj"), "%P\n");
    }

    private static void writtenAnew_textHasNoBlanksAtItsEnds() {
        due("none", anew("%P\n1 0 obj(a)endobj"), "%P\n1 0 obj\n(a)\nendobj\n");
        due("some", anew("%P\n1 0 obj \n\0(a)\37\t endobj"), "%P\n1 0 obj\n(a)\nendobj\n");
        due("blanks within stay", anew("%P\n1 0 obj 1 \n 2 endobj"), "%P\n1 0 obj\n1 \n 2\nendobj\n");
        due("blanks alone", anew("%P\n1 0 obj \n endobj"), "%P\n1 0 obj\n\nendobj\n");
        due("one blank", anew("%P\n1 0 obj endobj"), "%P\n1 0 obj\n\nendobj\n");
        due("a byte 33", anew("%P\n1 0 obj ! endobj"), "%P\n1 0 obj\n!\nendobj\n");
        due("a comment stays", anew("%P\n1 0 obj%x\nendobj"), "%P\n1 0 obj\n%x\nendobj\n");
        due("all bytes above 32 stay", anew("%P\n1 0 obj \377\200\177 endobj"), "%P\n1 0 obj\n\377\200\177\nendobj\n");
    }

    private static void writtenAnew_isByNumberWith0Behind() {
        due("1, 9, 10, 60", anew("%P\n60 7 obj d endobj 10 0 obj c endobj 000009 0 obj b endobj 1 999999 obj a endobj"),
                "%P\n1 0 obj\na\nendobj\n9 0 obj\nb\nendobj\n10 0 obj\nc\nendobj\n60 0 obj\nd\nendobj\n");
    }

    private static void writtenAnew_endsAreClosed() {
        due("at a head", anew("1 0 obj a 2 0 obj b endobj"), "%P\n1 0 obj\na\nendobj\n2 0 obj\nb\nendobj\n");
        due("at trailer", anew("%P\n1 0 obj a trailer"), "%P\n1 0 obj\na\nendobj\n");
    }

    private static void writtenAnew_referencesToNothingBecomeNull() {
        due("there", anew("%P\n1 0 obj<</A 1 0 R>>endobj"), "%P\n1 0 obj\n<</A 1 0 R>>\nendobj\n");
        due("not there", anew("%P\n1 0 obj<</A 2 0 R>>endobj"), "%P\n1 0 obj\n<</A null>>\nendobj\n");
        due("0, 61, the greatest", anew("%P\n1 0 obj<</A[0 0 R 61 0 R 999999 999999 R]>>endobj"),
                "%P\n1 0 obj\n<</A[null null null]>>\nendobj\n");
        due("all between its first and its last byte", anew("%P\n1 0 obj<</A 2%x\n0\n\0R/B 1>>endobj"),
                "%P\n1 0 obj\n<</A null/B 1>>\nendobj\n");
        due("one that is cut", anew("%P\n1 0 obj<</A 2 0 R>>endobj 2 0 obj"), "%P\n1 0 obj\n<</A null>>\nendobj\n");
        due("those that are none of its", anew("%P\n1 0 obj<<2 0 R/A(2 0 R)>>2 0 R[2 0 R]endobj"),
                "%P\n1 0 obj\n<<2 0 R/A(2 0 R)>>2 0 R[2 0 R]\nendobj\n");
        due("without a dictionary", anew("%P\n1 0 obj[2 0 R]endobj"), "%P\n1 0 obj\n[2 0 R]\nendobj\n");
    }

    private static String streamAnew(String dictionary, String behind) {
        String all = anew("%P\n1 0 obj" + dictionary + "stream\n" + behind);
        return all.substring("%P\n1 0 obj\n".length());
    }

    private static void writtenAnew_streamHasItsOwnLength() {
        due("right", streamAnew("<</Length 1>>", "x\nendstream endobj"), "<< /Length 1 >> stream\nx\nendstream\nendobj\n");
        due("wrong", streamAnew("<</Length 7>>", "x\nendstream endobj"), "<< /Length 1 >> stream\nx\nendstream\nendobj\n");
        due("none", streamAnew("<<>>", "x\nendstream endobj"), "<< /Length 1 >> stream\nx\nendstream\nendobj\n");
        due("no data", streamAnew("<<>>", "endstream endobj"), "<< /Length 0 >> stream\n\nendstream\nendobj\n");
        due("no end", streamAnew("<<>>", "x\n"), "<< /Length 2 >> stream\nx\n\nendstream\nendobj\n");
        for (int size : new int[] {9, 10, 99, 100, 999, 1000}) {
            String bytes = "y".repeat(size);
            due(size + " bytes", streamAnew("<<>>", bytes), "<< /Length " + size + " >> stream\n" + bytes
                    + "\nendstream\nendobj\n");
        }
    }

    private static void writtenAnew_streamLosesThePairsOfLength() {
        String end = " stream\nx\nendstream\nendobj\n";
        due("one", streamAnew("<</A 1/Length 1/B 2>>", "xendstream endobj"), "<< /Length 1 /A 1/B 2>>" + end);
        due("blanks round it stay", streamAnew("<< /Length  1 >>", "xendstream endobj"), "<< /Length 1   >>" + end);
        due("two", streamAnew("<</Length 1/A 1/Length 1>>", "xendstream endobj"), "<< /Length 1 /A 1>>" + end);
        due("a reference", streamAnew("<</Length 9 0 R/A 1>>", "xendstream endobj"), "<< /Length 1 /A 1>>" + end);
        due("a row", streamAnew("<</Length[1 [9 0 R]]/A 1>>", "xendstream endobj"), "<< /Length 1 /A 1>>" + end);
        due("a dictionary", streamAnew("<</Length<</A 1>>/A 1>>", "xendstream endobj"), "<< /Length 1 /A 1>>" + end);
        due("a string", streamAnew("<</Length(1)/A 1>>", "xendstream endobj"), "<< /Length 1 /A 1>>" + end);
        due("a name", streamAnew("<</Length/Length/A 1>>", "xendstream endobj"), "<< /Length 1 /A 1>>" + end);
        due("a sign", streamAnew("<</Length]/A 1>>", "xendstream endobj"), "<< /Length 1 /A 1>>" + end);
        due("as many as the bytes hold", streamAnew("<<" + "/Length/".repeat(180) + "/A 1>>", "xendstream endobj"),
                "<< /Length 1 /A 1>>" + end);
        due("a name without a value stays", streamAnew("<</A 1/Length>>", "xendstream endobj"),
                "<< /Length 1 /A 1/Length>>" + end);
        due("within another one it stays", streamAnew("<</A<</Length 1>>>>", "xendstream endobj"),
                "<< /Length 1 /A<</Length 1>>>>" + end);
        due("as a value it stays", streamAnew("<</A/Length/B 1>>", "xendstream endobj"),
                "<< /Length 1 /A/Length/B 1>>" + end);
        due("longer names stay", streamAnew("<</Lengths 1/Lengt 1>>", "xendstream endobj"),
                "<< /Length 1 /Lengths 1/Lengt 1>>" + end);
    }

    private static void writtenAnew_streamLosesWhatIsRoundIt() {
        String want = "<< /Length 1 /A null>> stream\nx\nendstream\nendobj\n";
        due("before and behind", streamAnew(" %y\n <</A 9 0 R>> %y\n ", "xendstream y 9 0 R endobj"), want);
        due("references in the data stay", streamAnew("<<>>", "9 0 R\nendstream endobj"),
                "<< /Length 5 >> stream\n9 0 R\nendstream\nendobj\n");
    }

    private static void writtenAnew_lengthStaysWithoutAStream() {
        due("a dictionary alone", anew("%P\n1 0 obj<</Length 5>>endobj"), "%P\n1 0 obj\n<</Length 5>>\nendobj\n");
    }

    private static void writtenAnew_trailerIfThereIsACatalogue() {
        String object = " 0 obj\n<</Type/Catalog>>\nendobj\n";
        due("1", anew("%P\n" + catalogue(1, "")), "%P\n1" + object + "trailer << /Root 1 0 R >>\n");
        due("60", anew("%P\n" + catalogue(60, "")), "%P\n60" + object + "trailer << /Root 60 0 R >>\n");
        due("none", anew("%P\n1 0 obj endobj trailer<</Root 1 0 R>>"), "%P\n1 0 obj\n\nendobj\n");
    }
}
