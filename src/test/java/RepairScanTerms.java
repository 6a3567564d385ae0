/**
 * The boundary cases of the document's terms, up to the trailer: a test for each sentence, with the case itself and the
 * nearest ones on both sides. What is due is read off the document, not off the class.
 */
public final class RepairScanTerms extends Checks {
    private static final String NOT_REGULAR = "()<>[]{}/%";

    private RepairScanTerms() {
    }

    public static void main(String[] args) {
        runTests(RepairScanTerms.class);
    }

    private static boolean isRegular(int b) {
        return b > 32 && NOT_REGULAR.indexOf(b) < 0;
    }

    // ---- bytes and tokens

    private static void blanks_areAllBytesUpTo32() {
        for (int b : new int[] {0, 1, 9, 10, 13, 31, 32}) {
            due("byte " + b, count("%P\n1" + (char) b + "0" + (char) b + "obj" + (char) b + "endobj"), 1);
        }
        for (int b : new int[] {33, 127, 128, 160, 255}) {
            due("byte " + b, count("%P\n1" + (char) b + "0 obj endobj 2 0" + (char) b + "obj endobj"), 0);
        }
    }

    private static void regularBytes_areAllAbove32ButTen() {
        for (int b = 0; b <= 255; b++) {
            // A regular byte makes one word of x and endobj; / makes a name, ( a string, % a comment of it.
            boolean parts = !isRegular(b) && "/(%".indexOf(b) < 0;
            due("byte " + b, count("%P\n1 0 obj x" + (char) b + "endobj"), parts ? 1 : 0);
        }
    }

    private static void tokens_doubledSignsStandAtOnce() {
        due("<<", refs("<</A 9 0 R>>"), 1);
        due("< <", refs("< </A 9 0 R>>"), 0);
        due("<", refs("</A 9 0 R>>"), 0);
        due("<<<", refs("<<</A 9 0 R>>"), 1);
        due("<<<< is << and one that is passed", refs("<<<</A 9 0 R>>"), 1);
        due(">>", data("<<>>stream\nxendstream"), "x");
        due("> >", data("<<> >stream\nxendstream"), "none");
        due(">>> is >> and >", data("<<>>>stream\nxendstream"), "none");
        due("> >>", data("<<> >>stream\nxendstream"), "x");
    }

    private static void name_mayHaveNoByteBehindItsSign() {
        due("/ with a value", kind("/ 1/Type/Page"), 3);
        due("/ takes the next name as its value", kind("/ /Type/Page"), 0);
        due("// are two names", kind("//Type/Page"), 0);
        due("/// are three", kind("///Type/Page"), 3);
        due("/ right before >>", kind("/Type/Page/"), 3);
        due("/ is not the name of one byte", kind("/T/Page/ype/Page"), 0);
    }

    private static void name_endsBeforeAByteThatIsNotRegular() {
        for (int b = 0; b <= 255; b++) {
            // The ) ends a string, the byte 10 a comment.
            String file = "%P\n1 0 obj<</Type/Page" + (char) b + ")\n>>endobj";
            due("byte " + b, scanned(file).found(1, 3), b == 's' ? 2 : isRegular(b) ? 0 : 3);
        }
    }

    private static void string_mayBeEmpty() {
        due("()", count("%P\n()1 0 obj endobj"), 1);
        due("() as a value", kind("/A()/Type/Page"), 3);
        due("( alone", count("%P\n(1 0 obj endobj"), 0);
    }

    private static void string_goesUpToTheNextEnd() {
        due("one within the other is none", count("%P\n((1 0 obj endobj)2 0 obj endobj)3 0 obj endobj"), 2);
        due("a byte 10 does not end it", count("%P\n(\n1 0 obj endobj\n)2 0 obj endobj"), 1);
        due("a % in it is no comment", count("%P\n(%)1 0 obj endobj"), 1);
        due("a \\ before ) means nothing", count("%P\n(\\)1 0 obj endobj"), 1);
        due(") alone is a token", count("%P\n)1 0 obj endobj"), 1);
    }

    private static void string_withoutItsEndTakesAllBytesLeft() {
        due("heads too", count("%P\n1 0 obj endobj(2 0 obj endobj"), 1);
        due("its end is the last byte", count("%P\n1 0 obj endobj(2 0 obj endobj)"), 1);
        due("it begins with the last byte", count("%P\n1 0 obj endobj("), 1);
        told("within an object it cuts that", "%P\n~1 0 obj(endobj", "10@a 6@0");
        told("ended, it does not", "%P\n1 0 obj()endobj", "6@0");
    }

    private static void comment_goesUpToAByte10() {
        due("a byte 10", count("%P\n1 0 obj endobj"), 1);
        due("a byte 13", count("%P\r1 0 obj endobj"), 0);
        due("a byte 9", count("%P\t1 0 obj endobj"), 0);
        due("a byte 11", count("%P\0131 0 obj endobj"), 0);
        due("at once", count("%\n1 0 obj endobj"), 1);
        due("another % in it", count("%P%\n1 0 obj endobj"), 1);
        due("a ( in it is no string", count("%P(\n1 0 obj endobj"), 1);
    }

    private static void comment_withoutAByte10TakesAllBytesLeft() {
        due("heads too", count("%P\n1 0 obj endobj %2 0 obj endobj"), 1);
        due("% as the last byte", count("%P\n1 0 obj endobj%"), 1);
        told("within an object it cuts that", "%P\n~1 0 obj %endobj", "10@a 6@0");
        told("with a byte 10 it does not", "%P\n1 0 obj %\nendobj", "6@0");
    }

    private static void comment_partsTokens() {
        due("of a head", count("%P\n1%\n0%\nobj%\nendobj%"), 1);
        due("a word", count("%P\n1 0 obj end%\nobj"), 0);
        due("of a reference", refs("<</A 9%\n0%\nR>>"), 1);
        due("<< is not parted", refs("<%\n</A 9 0 R>>"), 0);
    }

    // ---- numbers, references, heads

    private static void number_hasOneToSixDigits() {
        due("none", tail("trailer<</Size>>"), "0 0");
        due("one", tail("trailer<</Size 7>>"), "0 7");
        due("six", tail("trailer<</Size 999999>>"), "0 999999");
        due("six with zeros before", tail("trailer<</Size 000007>>"), "0 7");
        due("seven", tail("trailer<</Size 1000000>>"), "0 0");
        due("seven with zeros before", tail("trailer<</Size 0000007>>"), "0 0");
        due("many", tail("trailer<</Size 99999999999999999999>>"), "0 0");
    }

    private static void number_isAWordOfDigitsAlone() {
        for (int b = 0; b <= 255; b++) {
            boolean isDigit = b >= '0' && b <= '9';
            boolean goesOn = isRegular(b) && !isDigit;
            due("byte " + b + " behind a digit", tail("trailer<</Size 5" + (char) b + ")\n>>"),
                    "0 " + (isDigit ? 50 + b - '0' : goesOn ? 0 : 5));
            if (goesOn) {
                due("byte " + b + " before a digit", tail("trailer<</Size " + (char) b + "5>>"), "0 0");
            }
        }
    }

    private static void reference_isTwoNumbersAndTheWordR() {
        due("both and R", refs("<</A[1 0 R]>>"), 1);
        due("one number", refs("<</A[1 R]>>"), 0);
        due("no number", refs("<</A[R]>>"), 0);
        due("three numbers: the last two", mends(scanned("%P\n1 0 obj<</A[9 1 0 R]>>endobj")), "6@0");
        due("without R", refs("<</A[1 0]>>"), 0);
        due("a longer word", refs("<</A[1 0 RR 1 0 R1 1 0 R,]>>"), 0);
        due("a smaller letter", refs("<</A[1 0 r]>>"), 0);
        due("a name", refs("<</A[1 0/R]>>"), 0);
        due("R at once behind a number", refs("<</A[1 0R]>>"), 0);
        due("numbers parted by another token", refs("<</A[1]0 R/B[1(0)R]>>"), 0);
        due("two of them", refs("<</A[1 0 R 1 0 R]>>"), 2);
        due("R behind a reference", refs("<</A[1 0 R R 0 R]>>"), 1);
    }

    private static void reference_numbersHaveSixDigitsAtMost() {
        due("six and six", refs("<</A[999999 999999 R]>>"), 1);
        due("seven and one", refs("<</A[1000000 0 R]>>"), 0);
        due("one and seven", refs("<</A[1 0000000 R]>>"), 0);
        due("seven, and two more", refs("<</A[0000001 1 0 R]>>"), 1);
    }

    private static void reference_isToTheFirstNumber() {
        told("the first is there", "%P\n1 0 obj<</A 1 9 R>>endobj", "6@0");
        told("the second is there", "%P\n~1 0 obj<</A 9 1 R>>endobj", "5@a 6@0");
        told("zeros before it", "%P\n1 0 obj<</A 000001 0 R>>endobj", "6@0");
    }

    private static void head_firstNumberIs1To60() {
        RepairScan x = scanned("%P\n0 0 obj endobj 1 0 obj endobj 60 0 obj endobj 61 0 obj endobj 999999 0 obj endobj");
        due("1 and 60", isThere(x, 1) && isThere(x, 60), true);
        due("0 and 61", isThere(x, 0) || isThere(x, 61) || isThere(x, 999999), false);
        due("60 with zeros before", scanned("%P\n000060 0 obj endobj").found(60, 0), 3);
        told("0 within an object does not end it", "%P\n1 0 obj 0 0 obj endobj", "6@0");
        told("1 does", "%P\n2 0 obj ~1 0 obj endobj", "1@a 6@0");
        told("60 does", "%P\n2 0 obj ~60 0 obj endobj", "1@a 6@0");
        told("61 does not", "%P\n2 0 obj 61 0 obj endobj", "6@0");
    }

    private static void head_secondNumberIsAnyNumber() {
        due("0", count("%P\n1 0 obj endobj"), 1);
        due("six digits", count("%P\n1 999999 obj endobj"), 1);
        due("seven digits", count("%P\n1 1000000 obj endobj"), 0);
        due("none", count("%P\n1 obj endobj"), 0);
        due("none, and a word behind obj", count("%P\n1 obj x endobj"), 0);
        due("a word", count("%P\n1 a obj endobj"), 0);
    }

    private static void head_hasTheWholeWordObj() {
        due("obj", count("%P\n1 0 obj endobj"), 1);
        due("ob", count("%P\n1 0 ob endobj"), 0);
        due("objs", count("%P\n1 0 objs endobj"), 0);
        due("xobj", count("%P\n1 0 xobj endobj"), 0);
        due("OBJ", count("%P\n1 0 OBJ endobj"), 0);
        due("/obj", count("%P\n1 0/obj endobj"), 0);
        due("0obj", count("%P\n1 0obj endobj"), 0);
    }

    private static void head_isTheLastTwoOfMoreNumbers() {
        due("three", scanned("%P\n1 2 3 obj endobj").found(2, 0), 5);
        due("the first of three too great", scanned("%P\n61 60 0 obj endobj").found(60, 0), 6);
        due("the second of three too small", count("%P\n5 0 0 obj endobj"), 0);
        told("in an object, the next head begins with the second", "%P\n1 0 obj 5 ~6 0 obj endobj", "1@a 6@0");
    }

    private static void head_mayBeTheLastBytesOfAll() {
        told("obj is the end of all", "%P\n~1 0 obj", "10@a 6@0");
        told("one byte less", "%P\n1 0 ob", "6@0");
    }

    // ---- the end of an object

    private static void text_beginsRightBehindObj() {
        String marked = "%P\n ~1 0 obj~ \n(a) ~endobj";
        RepairScan x = scanned(unmarked(marked));
        due("head", x.found(1, 0), place(marked, 'a'));
        due("text", x.found(1, 1), place(marked, 'b'));
        due("end", x.found(1, 2), place(marked, 'c'));
    }

    private static void end_isTheWholeWordEndobj() {
        for (String word : new String[] {"endob", "endobjs", "xendobj", "ENDOBJ", "/endobj", "(endobj)", "%endobj\n"}) {
            String marked = "%P\n1 0 obj " + word + " ~endobj";
            due(word, scanned(unmarked(marked)).found(1, 2), place(marked, 'a'));
            due(word + " alone", count("%P\n1 0 obj " + word), 0);
        }
        due("endobj alone", count("%P\n1 0 obj endobj"), 1);
        due("at once behind a sign", count("%P\n1 0 obj(a)endobj 2 0 obj[]endobj 3 0 obj<<>>endobj"), 3);
    }

    private static void end_byEndobjTellsNoMend() {
        told("one", "%P\n1 0 obj endobj", "6@0");
        told("the next head behind it", "%P\n1 0 obj endobj 2 0 obj endobj", "6@0");
        told("trailer behind it", "%P\n1 0 obj endobj trailer", "6@0");
    }

    private static void end_atTheNextHeadTellsMend1There() {
        String marked = "%P\n1 0 obj (a) ~2 0 obj endobj";
        told("the place", marked, "1@a 6@0");
        due("where it ends", scanned(unmarked(marked)).found(1, 2), place(marked, 'a'));
        told("each of many", "%P\n1 0 obj ~2 0 obj ~3 0 obj endobj", "1@a 1@b 6@0");
        told("a head in a string is none", "%P\n1 0 obj (2 0 obj) endobj", "6@0");
        told("a head in a comment is none", "%P\n1 0 obj %2 0 obj\nendobj", "6@0");
        told("a reference is none", "%P\n1 0 obj 2 0 R endobj", "6@0");
    }

    private static void end_atTheWordTrailerTellsMend1There() {
        String marked = "%P\n1 0 obj (a) ~trailer";
        told("the place", marked, "1@a 6@0");
        due("where it ends", scanned(unmarked(marked)).found(1, 2), place(marked, 'a'));
        for (String word : new String[] {"traile", "trailers", "xtrailer", "/trailer", "(trailer)", "%trailer\n"}) {
            told(word, "%P\n1 0 obj " + word + " endobj", "6@0");
        }
    }

    private static void end_outsideOfObjectsMeansNothing() {
        told("endobj before, between and behind", "%P\nendobj 1 0 obj endobj endobj 2 0 obj endobj endobj", "6@0");
        due("how many", count("%P\nendobj 1 0 obj endobj endobj 2 0 obj endobj endobj"), 2);
    }

    private static void end_alsoWithinWhatIsOpen() {
        told("endobj in a row in a dictionary", "%P\n1 0 obj<</A[<< endobj", "6@0");
        told("a head there", "%P\n1 0 obj<</A[<< ~2 0 obj endobj", "1@a 6@0");
        told("trailer there", "%P\n1 0 obj<</A[<< ~trailer", "1@a 6@0");
        told("a head in place of a value", "%P\n1 0 obj<</A ~2 0 obj endobj", "1@a 6@0");
        told("a head in place of a name", "%P\n1 0 obj<</A 1 ~2 0 obj endobj", "1@a 6@0");
    }

    private static void cut_isWhatIsOpenWhereTheBytesEnd() {
        String file = "%P\n7 0 obj<</A 1/B[(a)]>>endobj";
        int headEnd = file.indexOf("obj") + 3;
        for (int size = 1; size <= file.length(); size++) {
            RepairScan x = scanned(file.substring(0, size));
            boolean isCut = size >= headEnd && size < file.length();
            due("cut, of " + size + " bytes", x.cut(), isCut ? 7 : 0);
            due("there, of " + size + " bytes", isThere(x, 7), size == file.length());
            due("told, of " + size + " bytes", mends(x), (size == 1 ? "9@0 " : "") + (isCut ? "10@3 6@0" : "6@0"));
        }
    }

    private static void cut_isNotWhatHasAStream() {
        told("the word stream alone", "%P\n~1 0 obj<<>>stream", "10@a 6@0");
        told("a byte 10 behind it", "%P\n1 0 obj<<>>stream\n~", "3@a 2@a 6@0");
        told("its stream ends, it does not: mend 1 at the size", "%P\n1 0 obj<</Length 0>>stream\nendstream~", "1@a 6@0");
        told("a blank behind that", "%P\n1 0 obj<</Length 0>>stream\nendstream ~", "1@a 6@0");
        told("half an endobj behind that", "%P\n1 0 obj<</Length 0>>stream\nendstream endob~", "1@a 6@0");
        told("endobj behind that", "%P\n1 0 obj<</Length 0>>stream\nendstream endobj", "6@0");
        String marked = "%P\n1 0 obj<</Length 0>>stream\nendstream x ~";
        due("it ends at the size", scanned(unmarked(marked)).found(1, 2), place(marked, 'a'));
    }

    private static void cut_canBeTheLastOneAlone() {
        RepairScan x = scanned("%P\n1 0 obj 2 0 obj 3 0 obj");
        due("the last", x.cut(), 3);
        due("the others are there", isThere(x, 1) && isThere(x, 2) && !isThere(x, 3), true);
        told("told", "%P\n1 0 obj ~2 0 obj ~3 0 obj", "1@a 1@b 10@b 6@0");
    }

    // ---- equal numbers

    private static void equalNumbers_theLastOneIsThere() {
        String two = "%P\n~1 0 obj(a)endobj ~1 0 obj(b)endobj";
        due("of two", scanned(unmarked(two)).found(1, 0), place(two, 'b'));
        told("of two", two, "4@a 6@0");
        String three = two + " ~1 0 obj(c)endobj";
        due("of three", scanned(unmarked(three)).found(1, 0), place(three, 'c'));
        told("of three", three, "4@a 4@b 6@0");
        told("of one", "%P\n1 0 obj(a)endobj", "6@0");
        due("they count as one", count(unmarked(three)), 1);
    }

    private static void equalNumbers_areEqualByTheFirstNumber() {
        told("other zeros before", "%P\n~1 0 obj endobj 01 0 obj endobj", "4@a 6@0");
        told("another second number", "%P\n~1 0 obj endobj 1 5 obj endobj", "4@a 6@0");
        told("another first number", "%P\n1 0 obj endobj 11 0 obj endobj", "6@0");
        told("60", "%P\n~60 0 obj endobj 60 0 obj endobj", "4@a 6@0");
    }

    private static void equalNumbers_areToldWhenTheLaterOneEnds() {
        told("behind what its stream tells", "%P\n~1 0 obj endobj 1 0 obj<<>>stream\n~endstream endobj", "3@b 4@a 6@0");
        told("behind its missing end", "%P\n~1 0 obj endobj 1 0 obj ~2 0 obj endobj", "1@b 4@a 6@0");
        told("at the end of all", "%P\n~1 0 obj endobj 1 0 obj<<>>stream\n~x", "3@b 2@b 4@a 6@0");
        told("before what the next one tells", "%P\n~1 0 obj endobj 1 0 obj endobj 2 0 obj<<>>stream\n~x",
                "4@a 3@b 2@b 6@0");
    }

    private static void equalNumbers_oneThatIsCutDoesNotCount() {
        String marked = "%P\n~1 0 obj(a)endobj ~1 0 obj(b)endob";
        RepairScan x = scanned(unmarked(marked));
        due("the earlier one is there", x.found(1, 0), place(marked, 'a'));
        due("it was cut", x.cut(), 1);
        due("it was not twice", x.twice(-1), 0);
        told("no mend 4", marked, "10@b 6@0");
        told("one byte more", "%P\n~1 0 obj(a)endobj ~1 0 obj(b)endobj", "4@a 6@0");
    }

    private static void equalNumbers_nothingOfTheEarlierOnesIsLeft() {
        String rich = "1 0 obj<</Type/Page/Length 1/A 9 0 R>>stream\nxendstream endobj ";
        for (String last : new String[] {"1 0 obj 5 endobj", "1 0 obj<<>>endobj"}) {
            for (String between : new String[] {"", "1 0 obj endobj ", rich, rich + rich}) {
                RepairScan x = scanned("%P\n" + rich + between + last);
                due("kind", x.found(1, 3), 0);
                due("references", x.found(1, 4), 0);
                due("stream", dataOf(x, 1), "none");
                due("whole", x.whole(1), true);
                due("pages", x.pages(), 0);
                due("mends", mends(x).contains("5@"), false);
            }
        }
        String pages = " 3 0 obj<</Type/Page>>endobj trailer<</Root 1 0 R>>";
        told("its Pages", "%P\n~1 0 obj<</Type/Catalog/Pages 2 0 R>>endobj ~1 0 obj endobj 1 0 obj<</Type/Catalog>>endobj"
                + " 2 0 obj<</Type/Pages/Kids[3 0 R]>>endobj" + pages, "4@a 4@b 8@0");
        told("its Kids", "%P\n1 0 obj<</Type/Catalog/Pages 2 0 R>>endobj ~2 0 obj<</Type/Pages/Kids[3 0 R]>>endobj"
                + " ~2 0 obj endobj 2 0 obj<</Type/Pages>>endobj" + pages, "4@a 4@b 8@0");
    }

    // ---- the dictionary

    private static void dictionary_isThereIfTheFirstTokenOpensIt() {
        due("first", refs("<</A 9 0 R>>"), 1);
        due("behind blanks and a comment", refs(" \0 %x\n <</A 9 0 R>>"), 1);
        due("behind a word", refs("x<</A 9 0 R>>"), 0);
        due("behind a string", refs("()<</A 9 0 R>>"), 0);
        due("behind a row", refs("[<</A 9 0 R>>]"), 0);
        due("a row alone", refs("[9 0 R]"), 0);
        due("a reference alone", refs("9 0 R"), 0);
        due("nothing at all", refs(""), 0);
    }

    private static void dictionary_mayBeEmpty() {
        due("references", refs("<<>>"), 0);
        due("kind", kind(""), 0);
        due("its stream", data("<<>>stream\nxendstream"), "x");
        due("trailer", tail("trailer<<>>"), "0 0");
    }

    private static void dictionary_nameRightBeforeItsEndIsPassed() {
        due("the only one", kind("/Type"), 0);
        due("the last of equal names", kind("/Type/Page/Type"), 3);
        due("with a value it counts", kind("/Type/Page/Type 1"), 0);
        due("the >> is not its value", data("<</A>>stream\nxendstream"), "x");
        due("a > is", kind("/A>/Type/Page"), 3);
        due("before the end of the object", scanned("%P\n1 0 obj<</Type/Page/Type endobj").found(1, 3), 3);
        due("before the next head", scanned("%P\n1 0 obj<</Type/Page/Type 2 0 obj endobj").found(1, 3), 3);
        due("before the word trailer", scanned("%P\n1 0 obj<</Type/Page/Type trailer").found(1, 3), 3);
        due("before the end of all", tail("trailer<</Size 5/Size"), "0 5");
    }

    private static void dictionary_whatIsNoNameIsPassed() {
        for (String passed : new String[] {"5", "x", "(x)", "]", "<", ">", ")", "{", "}", "[", "1 0 R", "5 6 7"}) {
            due(passed + " before a name", kind(passed + "/Type/Page"), 3);
            due(passed + " behind a value", kind("/A 1 " + passed + "/Type/Page"), 3);
            due(passed + " at the end", kind("/Type/Page " + passed), 3);
        }
    }

    private static void dictionary_referencesThatArePassedAreNone() {
        due("before a name", refs("<<9 0 R/A 1>>"), 0);
        due("behind a value", refs("<</A 1 9 0 R>>"), 0);
        due("behind a reference", refs("<</A 9 0 R 8 0 R>>"), 1);
        told("none is told", "%P\n1 0 obj<<9 0 R>>endobj", "6@0");
        due("none is written anew", anew("%P\n1 0 obj<<9 0 R>>endobj"), "%P\n1 0 obj\n<<9 0 R>>\nendobj\n");
    }

    private static void dictionary_ofEqualNamesTheLastCounts() {
        due("one", kind("/Type/Page"), 3);
        due("two", kind("/Type/Page/Type/Pages"), 2);
        due("three", kind("/Type/Page/Type/Pages/Type/Catalog"), 1);
        due("the last means nothing", kind("/Type/Page/Type null"), 0);
        due("another name is not equal", kind("/Type/Page/type/Pages/Typ/Pages/Types/Pages"), 3);
    }

    private static void dictionary_endsAtTheLatestWhereTheObjectDoes() {
        due("at endobj", scanned("%P\n1 0 obj<</Type/Page endobj /Type/Pages>>").found(1, 3), 3);
        due("at a head", scanned("%P\n1 0 obj<</Type/Page 2 0 obj /Type/Pages>> endobj").found(1, 3), 3);
        due("at trailer", scanned("%P\n1 0 obj<</Type/Page trailer /Type/Pages>>").found(1, 3), 3);
        due("within a row", scanned("%P\n1 0 obj<</A[9 0 R endobj 8 0 R]>>").found(1, 4), 1);
        due("within a dictionary", scanned("%P\n1 0 obj<</A<</B 9 0 R endobj 8 0 R>>>>").found(1, 4), 1);
        due("behind it there is no stream", data("<</A 1 endobj>>stream\nxendstream"), "none");
    }

    private static void dictionary_whatIsBehindItIsNoneOfIt() {
        due("references", refs("<</A 9 0 R>>8 0 R[7 0 R]<</B 6 0 R>>"), 1);
        due("names", scanned("%P\n1 0 obj<</Type/Page>>/Type/Pages endobj").found(1, 3), 3);
    }

    // ---- values

    private static void value_aNumberAndNoReference() {
        due("a number", kind("/A 1/Type/Page"), 3);
        due("two: the second is passed", kind("/A 1 0/Type/Page"), 3);
        due("a reference", kind("/A 1 0 R/Type/Page"), 3);
        due("Size is a reference", tail("trailer<</Size 1 0 R>>"), "0 0");
        due("Size is two numbers", tail("trailer<</Size 1 0>>"), "0 1");
        due("Root is two numbers", tail("trailer<</Root 1 0>>"), "0 0");
        due("Root is a reference", tail("trailer<</Root 1 0 R>>"), "1 0");
    }

    private static void value_anyOtherSingleTokenMeansNothing() {
        for (String value : new String[] {"]", ">", "<", ")", "{", "}", "x", "(x)", "/B", "1234567"}) {
            due(value + " is passed with its name", kind("/A " + value + "/Type/Page"), 3);
            due(value + " is no kind", kind("/Type " + value), 0);
        }
    }

    /** Were it passed like a name before >>, the earlier pair would count. */
    private static void value_anyOtherSingleTokenIsTheValueOfItsName() {
        for (String value : new String[] {"]", ">", "<", ")", "{", "}", "x", "(x)", "/B", "5", "1 0 R", "[]", "<<>>"}) {
            due(value + " behind an equal name", kind("/Type/Page/Type " + value + " "), 0);
            due(value + " behind an equal name, more behind it", kind("/Type/Page/Type " + value + "/A 1"), 0);
            due(value + " is no name of a pair", kind("/A " + value + "/Type/Page"), 3);
        }
    }

    private static void value_aRowGoesUpToItsEnd() {
        due("empty", kind("/A[]/Type/Page"), 3);
        due("names in it", kind("/A[/Type/Pages]/Type/Page"), 3);
        due("one in the other", kind("/A[[]/Type/Pages]/Type/Page"), 3);
        due("three", kind("/A[[[]][]]/Type/Page"), 3);
        due("one end too few", kind("/A[[]/Type/Page"), 0);
        due("one end too many", kind("/A[]]/Type/Page"), 3);
        due("two begun as one", kind("/A[/Type/Page"), 0);
    }

    private static void value_aDictionaryGoesUpToItsEnd() {
        due("empty", kind("/A<<>>/Type/Page"), 3);
        due("names in it", kind("/A<</Type/Pages>>/Type/Page"), 3);
        due("one in the other", kind("/A<</B<<>>/Type/Pages>>/Type/Page"), 3);
        due("one end too few", kind("/A<</B<<>>/Type/Page"), 0);
        due("one end too many ends it", kind("/A<<>>>>/Type/Page"), 0);
        due("a name before its end", kind("/A<</B>>/Type/Page"), 3);
    }

    private static void value_isEndedByItsOwnSortOfBrackets() {
        due("a row with << in it", kind("/A[<<]/Type/Page"), 3);
        due("a row with >> in it", kind("/A[>>]/Type/Page"), 3);
        due("a dictionary with [ in it", kind("/A<<[>>/Type/Page"), 3);
        due("a dictionary with ] in it", kind("/A<<]>>/Type/Page"), 3);
        due("strings hide them", kind("/A[(])]/Type/Page"), 3);
    }

    private static void value_mayGoAsDeepAsTheBytesDo() {
        String open = "[".repeat(700);
        String close = "]".repeat(700);
        due("700 rows", kind("/A" + open + "9 0 R" + close + "/Type/Page"), 3);
        due("their reference", refs("<</A" + open + "9 0 R" + close + ">>"), 1);
        due("one end less", kind("/A" + open + close.substring(1) + "/Type/Page"), 0);
        due("350 dictionaries", kind("/A" + "<<".repeat(350) + ">>".repeat(350) + "/Type/Page"), 3);
    }

    private static void references_areAllInTheValues() {
        due("none", refs("<</A 1>>"), 0);
        due("one", refs("<</A 9 0 R>>"), 1);
        due("in rows and dictionaries", refs("<</A[9 0 R[9 0 R<</B 9 0 R>>]]/C<<9 0 R[9 0 R]>>>>"), 5);
        due("of equal names too", refs("<</A 9 0 R/A 9 0 R>>"), 2);
        due("of a row without an end", refs("<</A[9 0 R/B 9 0 R>>"), 2);
        due("none in a string", refs("<</A(9 0 R)/B[(9 0 R)]>>"), 0);
        due("as many as the bytes hold", refs("<</A[" + "9 0 R ".repeat(240) + "]>>"), 240);
    }

    // ---- kinds

    private static void kinds_areTheWholeNames() {
        String[] names = {"/Catalog", "/Pages", "/Page"};
        for (int i = 0; i < names.length; i++) {
            due(names[i], kind("/Type" + names[i]), i + 1);
            due(names[i] + " and more", kind("/Type" + names[i] + "x"), 0);
            due(names[i] + " in a row", kind("/Type[" + names[i] + "]"), 0);
            due(names[i] + " as a string", kind("/Type(" + names[i] + ")"), 0);
            due(names[i] + " as a word", kind("/Type " + names[i].substring(1)), 0);
            due(names[i] + " of another name", kind("/Typo" + names[i]), 0);
        }
        for (String name : new String[] {"/Catalo", "/catalog", "/Pag", "/page", "/Pagess", "/", "/PAGE"}) {
            due(name, kind("/Type" + name), 0);
        }
        due("others", kind("/A 1"), 0);
        due("within another dictionary", kind("/A<</Type/Page>>"), 0);
    }
}
