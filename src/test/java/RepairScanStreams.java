/** The boundary cases of the terms STREAM and DATA, a test for each sentence. */
public final class RepairScanStreams extends Checks {
    private RepairScanStreams() {
    }

    public static void main(String[] args) {
        runTests(RepairScanStreams.class);
    }

    /** What a stream that ends with endobj tells: its data, and whether its Length was wrong. */
    private static String streamOf(String length, String behindStream) {
        RepairScan x = scanned("%P\n1 0 obj<<" + length + ">>stream\n" + behindStream + " endobj");
        return dataOf(x, 1) + (mends(x).startsWith("3@") ? " (mend 3)" : "");
    }

    // ---- where it begins

    private static void stream_isTheWordNextBehindTheDictionary() {
        due("at once", data("<<>>stream\nxendstream"), "x");
        due("behind blanks", data("<<>> \n\0stream\nxendstream"), "x");
        due("behind a comment", data("<<>>%y\nstream\nxendstream"), "x");
        due("behind another word", data("<<>>y stream\nxendstream"), "none");
        due("behind another token", data("<<>>]stream\nxendstream"), "none");
        due("behind a second dictionary", data("<<>><<>>stream\nxendstream"), "none");
        due("within the dictionary", data("<<stream\nxendstream>>"), "none");
        due("without a dictionary", data("stream\nxendstream"), "none");
        due("behind a row", data("[]stream\nxendstream"), "none");
    }

    private static void stream_isTheWholeWord() {
        for (String word : new String[] {"strea", "streams", "xstream", "Stream", "/stream", "(stream)", "%stream\n"}) {
            due(word, data("<<>>" + word + "\nxendstream"), "none");
        }
        due("stream", data("<<>>stream\nxendstream"), "x");
    }

    private static void stream_hasAByte10AtOnceBehindTheWord() {
        for (int b = 0; b <= 255; b++) {
            due("byte " + b, data("<<>>stream" + (char) b + "\nxendstream"), b == 10 ? "\nx" : "none");
        }
        told("no byte at all: it is cut", "%P\n~1 0 obj<<>>stream", "10@a 6@0");
        told("the byte 10 is the last of all", "%P\n1 0 obj<<>>stream\n~", "3@a 2@a 6@0");
    }

    private static void stream_isTheFirstOneOfAnObjectAlone() {
        due("two", data("<</Length 1>>stream\nxendstream stream\nyendstream"), "x");
        due("two with dictionaries", data("<</Length 1>>stream\nxendstream<</Length 1>>stream\nyendstream"), "x");
    }

    // ---- ended by its length

    private static void length_isExactOrStandsBeforeAByte10() {
        due("one less", streamOf("/Length 2", "abcendstream"), "abc (mend 3)");
        due("exact", streamOf("/Length 3", "abcendstream"), "abc");
        due("one more", streamOf("/Length 4", "abcendstream"), "abc (mend 3)");
        due("one less, a byte 10", streamOf("/Length 2", "abc\nendstream"), "abc (mend 3)");
        due("exact, a byte 10", streamOf("/Length 3", "abc\nendstream"), "abc");
        due("the byte 10 too", streamOf("/Length 4", "abc\nendstream"), "abc\n");
        due("one more than that", streamOf("/Length 5", "abc\nendstream"), "abc (mend 3)");
        due("two bytes 10 are one too many", streamOf("/Length 3", "abc\n\nendstream"), "abc\n (mend 3)");
        due("the first of two", streamOf("/Length 4", "abc\n\nendstream"), "abc\n");
        due("both", streamOf("/Length 5", "abc\n\nendstream"), "abc\n\n");
        due("a byte 13 is no byte 10", streamOf("/Length 3", "abc\rendstream"), "abc\r (mend 3)");
        due("a blank neither", streamOf("/Length 3", "abc endstream"), "abc  (mend 3)");
    }

    private static void length_mayBe0() {
        due("no data", streamOf("/Length 0", "endstream"), "");
        due("no data, a byte 10", streamOf("/Length 0", "\nendstream"), "");
        due("a byte 10 as data", streamOf("/Length 1", "\nendstream"), "\n");
        due("0, but one byte", streamOf("/Length 0", "xendstream"), "x (mend 3)");
        due("1, but none", streamOf("/Length 1", "endstream"), " (mend 3)");
    }

    private static void length_mayGoToTheEndOfAllOrBeyond() {
        String file = "%P\n1 0 obj<</Length 0000N>>stream\nabcendstream";
        int left = "abcendstream".length();
        // Without the bytes of endstream behind them, none of these are the data.
        for (int n : new int[] {left - 9 - 1, left - 9 + 1, left - 1, left, left + 1, 99}) {
            RepairScan x = scanned(file.replace("0000N", String.format("%06d", n)));
            due("length " + n, dataOf(x, 1) + " " + mends(x).startsWith("3@"), "abc true");
        }
        RepairScan exact = scanned(file.replace("0000N", String.format("%06d", left - 9)));
        due("exact", dataOf(exact, 1) + " " + mends(exact).startsWith("3@"), "abc false");
        due("the greatest", streamOf("/Length 999999", "abcendstream"), "abc (mend 3)");
    }

    private static void length_isANumber() {
        due("six digits", streamOf("/Length 000001", "xendstream"), "x");
        due("seven digits", streamOf("/Length 0000001", "xendstream"), "x (mend 3)");
        due("a reference", streamOf("/Length 1 0 R", "xendstream"), "x (mend 3)");
        due("a reference to 0, no data", streamOf("/Length 0 0 R", "endstream"), " (mend 3)");
        due("a string, no data", streamOf("/Length(0)", "endstream"), " (mend 3)");
        due("two numbers", streamOf("/Length 1 0", "xendstream"), "x");
        due("a string", streamOf("/Length(1)", "xendstream"), "x (mend 3)");
        due("a row", streamOf("/Length[1]", "xendstream"), "x (mend 3)");
        due("a name", streamOf("/Length/1", "xendstream"), "x (mend 3)");
        due("a sign before it", streamOf("/Length +1", "xendstream"), "x (mend 3)");
        due("none", streamOf("", "xendstream"), "x (mend 3)");
        due("a name alone", streamOf("/Length", "xendstream"), "x (mend 3)");
        due("of another name", streamOf("/length 1/Len 1/Lengths 1", "xendstream"), "x (mend 3)");
        due("within another dictionary", streamOf("/A<</Length 1>>", "xendstream"), "x (mend 3)");
    }

    private static void length_isTheLastOfEqualNames() {
        due("the last fits", streamOf("/Length 9/Length 1", "xendstream"), "x");
        due("the first fits", streamOf("/Length 1/Length 9", "xendstream"), "x (mend 3)");
        due("the last is no number", streamOf("/Length 1/Length(1)", "xendstream"), "x (mend 3)");
    }

    private static void length_passesAnEndstreamInTheData() {
        due("up to the second", streamOf("/Length 11", "aendstreambendstream"), "aendstreamb");
        due("up to the first", streamOf("/Length 1", "aendstreambendstream"), "a");
        due("between them", streamOf("/Length 10", "aendstreambendstream"), "a (mend 3)");
    }

    private static void endstream_isItsBytesWhateverIsBehindThem() {
        due("at once endobj", scanned("%P\n1 0 obj<</Length 1>>stream\nxendstreamendobj").whole(1), true);
        due("a byte 10 before it, at once endobj", scanned("%P\n1 0 obj<</Length 1>>stream\nx\nendstreamendobj").whole(1),
                true);
        told("at once endobj, by the word", "%P\n1 0 obj<<>>stream\n~x\nendstreamendobj", "3@a 6@0");
        told("a longer word", "%P\n1 0 obj<</Length 1>>stream\nxendstreams endobj", "6@0");
        told("a longer word, by the word", "%P\n1 0 obj<<>>stream\n~xendstreams endobj", "3@a 6@0");
        told("one byte too few", "%P\n1 0 obj<</Length 1>>stream\n~xendstrea endobj", "3@a 2@a 6@0");
        told("nothing is behind them", "%P\n1 0 obj<</Length 1>>stream\nxendstream~", "1@a 6@0");
        told("nothing, and one byte too few", "%P\n1 0 obj<</Length 1>>stream\n~xendstrea", "3@a 2@a 6@0");
    }

    // ---- ended by the word

    private static void endstream_isTheNextOneAnywhere() {
        due("the first of two", streamOf("", "aendstreambendstream"), "a (mend 3)");
        due("in a string", streamOf("", "(endstream)"), "( (mend 3)");
        due("in a comment", streamOf("", "%endstream\n"), "% (mend 3)");
        due("in a longer word", streamOf("", "xendstreamy"), "x (mend 3)");
        due("in half another one", streamOf("", "endstrendstream"), "endstr (mend 3)");
        told("as the last bytes of all", "%P\n1 0 obj<<>>stream\n~xendstream~", "3@a 1@b 6@0");
        due("endobj and heads are data", streamOf("", "endobj 2 0 obj trailer endstream"),
                "endobj 2 0 obj trailer  (mend 3)");
    }

    private static void endstream_leavesOutOneByte10BeforeIt() {
        due("none", streamOf("", "abcendstream"), "abc (mend 3)");
        due("one", streamOf("", "abc\nendstream"), "abc (mend 3)");
        due("two", streamOf("", "abc\n\nendstream"), "abc\n (mend 3)");
        due("a byte 13", streamOf("", "abc\rendstream"), "abc\r (mend 3)");
        due("13 and 10", streamOf("", "abc\r\nendstream"), "abc\r (mend 3)");
        due("10 and a blank", streamOf("", "abc\n endstream"), "abc\n  (mend 3)");
        due("it alone", streamOf("", "\nendstream"), " (mend 3)");
        due("not the one before the data", streamOf("", "endstream"), " (mend 3)");
    }

    private static void endstream_missingTheDataGoToTheEndOfAll() {
        String marked = "%P\n1 0 obj<</Length 1>>stream\n~abc endobj \n~";
        RepairScan x = scanned(unmarked(marked));
        due("the data, the byte 10 too", dataOf(x, 1), "abc endobj \n");
        due("it is there and ends", x.found(1, 2), place(marked, 'b'));
        due("it is not cut", x.cut(), 0);
        due("it is not whole", x.whole(1), false);
        told("mend 3, then mend 2, no mend 1", marked, "3@a 2@a 6@0");
        due("no data", dataOf(scanned("%P\n1 0 obj<<>>stream\n"), 1), "");
        due("one byte", dataOf(scanned("%P\n1 0 obj<<>>stream\nx"), 1), "x");
        due("a byte 10", dataOf(scanned("%P\n1 0 obj<<>>stream\n\n"), 1), "\n");
        due("nothing is found behind it", count("%P\n1 0 obj<<>>stream\nx endobj 2 0 obj endobj"), 1);
    }

    private static void mend3_standsWhereTheDataBegin() {
        told("not for an exact Length", "%P\n1 0 obj<</Length 1>>stream\nxendstream endobj", "6@0");
        told("for a wrong one", "%P\n1 0 obj<</Length 2>>stream\n~xendstream endobj", "3@a 6@0");
        told("for none", "%P\n1 0 obj <<>> stream\n~xendstream endobj", "3@a 6@0");
        told("of two objects", "%P\n1 0 obj<<>>stream\n~xendstream endobj 2 0 obj<<>>stream\n~xendstream endobj",
                "3@a 3@b 6@0");
    }

    private static void behindEndstream_itGoesOn() {
        told("endobj", "%P\n1 0 obj<</Length 1>>stream\nxendstream endobj", "6@0");
        told("a head at once", "%P\n1 0 obj<</Length 1>>stream\nxendstream~2 0 obj endobj", "1@a 6@0");
        told("trailer at once", "%P\n1 0 obj<</Length 1>>stream\nxendstream~trailer", "1@a 6@0");
        told("a word, then endobj", "%P\n1 0 obj<</Length 1>>stream\nxendstreamx y endobj", "6@0");
        told("a string takes endobj", "%P\n1 0 obj<</Length 1>>stream\nxendstream( endobj~", "1@a 6@0");
        due("where it ends", scanned("%P\n1 0 obj<<>>stream\nendstreamendobj").found(1, 2), 30);
    }

    private static void data_areAnyBytes() {
        StringBuilder all = new StringBuilder();
        for (int b = 0; b <= 255; b++) {
            all.append((char) b);
        }
        due("all 256", data("<</Length 256>>stream\n" + all + "endstream"), all);
        due("references in them are none", scanned("%P\n1 0 obj<</Length 5>>stream\n9 0 R\nendstream endobj").found(1, 4), 0);
        due("heads in them are none", count("%P\n1 0 obj<</Length 14>>stream\n2 0 obj endobj\nendstream endobj"), 1);
        due("a trailer in them is none", scanned("%P\n1 0 obj<</Length 22>>stream\ntrailer<</Root 1 0 R>>\nendstream endobj")
                .trailer(0), 0);
    }
}
