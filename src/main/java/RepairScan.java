import java.util.NoSuchElementException;

/** Mends broken files of numbered objects: see ../shared/DOC.md for every promise. */
public final class RepairScan {
    private static final int MOST_BYTES = 1500;
    private static final int MOST_WRITTEN = 3000;
    private static final int MOST_OBJECT = 60;

    private static final int NEWLINE = 10;
    private static final int LAST_BLANK = 32;
    private static final int MOST_DIGITS = 6;

    // What a token is, where one begins; a number tells at once whether more begins with it.
    private static final int NOTHING = 0;
    private static final int OTHER = 1;
    private static final int WORD = 2;
    private static final int NUMBER = 3;
    private static final int REFERENCE = 4;
    private static final int HEAD = 5;
    private static final int ENDOBJ = 6;
    private static final int TRAILER = 7;
    private static final int NAME = 8;
    private static final int OPEN = 9;
    private static final int CLOSE = 10;
    private static final int ROW_OPEN = 11;
    private static final int ROW_CLOSE = 12;

    private static final int KIND_CATALOGUE = 1;
    private static final int KIND_PAGES = 2;
    private static final int KIND_PAGE = 3;

    private static final int MEND_NO_END = 1;
    private static final int MEND_NO_STREAM_END = 2;
    private static final int MEND_WRONG_LENGTH = 3;
    private static final int MEND_EQUAL_NUMBER = 4;
    private static final int MEND_TO_NOTHING = 5;
    private static final int MEND_NO_ROOT = 6;
    private static final int MEND_GUESSED_CATALOGUE = 7;
    private static final int MEND_ALL_PAGES = 8;
    private static final int MEND_NO_BEGINNING = 9;
    private static final int MEND_CUT = 10;

    private static final String ENDSTREAM = "endstream";

    private final byte[] waiting;
    private int waitingCount;
    private final Scan latest;
    private final Scan aside;
    private final Writer writer;

    public RepairScan() {
        Tokens tokens = new Tokens(MOST_WRITTEN);
        waiting = new byte[MOST_BYTES];
        waitingCount = 0;
        latest = new Scan(tokens, MOST_BYTES);
        aside = new Scan(tokens, MOST_WRITTEN);
        writer = new Writer();
    }

    public void add(byte b) throws UnsupportedOperationException {
        if (waitingCount < 0 || waitingCount >= MOST_BYTES) {
            throw new UnsupportedOperationException();
        }
        waiting[waitingCount] = b;
        waitingCount++;
    }

    public int scan() throws IllegalStateException {
        if (waitingCount == 0) {
            throw new IllegalStateException();
        }
        latest.run(waiting, waitingCount);
        waitingCount = 0;
        return latest.objectCount;
    }

    public long found(int object, int what) throws NoSuchElementException, IndexOutOfBoundsException {
        Found it = latest.objectOf(object);
        if (it == null) {
            throw new NoSuchElementException();
        }
        switch (what) {
            case 0:
                return it.head;
            case 1:
                return it.text;
            case 2:
                return it.end;
            case 3:
                return it.dictionary.kind;
            case 4:
                return it.dictionary.referencesTo - it.dictionary.referencesFrom;
            default:
                throw new IndexOutOfBoundsException();
        }
    }

    public int mended(int i, int what) throws IndexOutOfBoundsException {
        if (i == -1) {
            return latest.mends.count;
        }
        if (i < 0 || i >= latest.mends.count || what < 0 || what > 1) {
            throw new IndexOutOfBoundsException();
        }
        return what == 0 ? latest.mends.numberAt(i) : latest.mends.fromAt(i);
    }

    public int catalogue() {
        return latest.chosenCatalogue;
    }

    public int pages() {
        return latest.pageList.count;
    }

    public int page(int i) throws IndexOutOfBoundsException {
        if (i < 0 || i >= latest.pageList.count) {
            throw new IndexOutOfBoundsException();
        }
        return latest.pageList.objectAt(i);
    }

    public int cut() {
        return latest.cutObject;
    }

    public int trailer(int key) throws IndexOutOfBoundsException {
        if (key < 0 || key > 1) {
            throw new IndexOutOfBoundsException();
        }
        return key == 0 ? latest.trailerRoot : latest.trailerSize;
    }

    public int stream(int object, int i) throws NoSuchElementException, IndexOutOfBoundsException {
        Found it = latest.objectOf(object);
        if (it == null || !it.hasStream) {
            throw new NoSuchElementException();
        }
        if (i == -1) {
            return it.dataTo - it.dataFrom;
        }
        if (i < 0 || i >= it.dataTo - it.dataFrom) {
            throw new IndexOutOfBoundsException();
        }
        return latest.byteAt(it.dataFrom + i);
    }

    public boolean whole(int object) throws NoSuchElementException {
        Found it = latest.objectOf(object);
        if (it == null) {
            throw new NoSuchElementException();
        }
        return it.endedByWord && (!it.hasStream || it.lengthHolds);
    }

    public int twice(int i) throws IndexOutOfBoundsException {
        if (i == -1) {
            return latest.repeats.count;
        }
        if (i < 0 || i >= latest.repeats.count) {
            throw new IndexOutOfBoundsException();
        }
        return latest.repeats.numberAt(i);
    }

    public int again() {
        if (latest.size == 0) {
            return 0;
        }
        writer.writeAll(latest);
        aside.run(writer.row, writer.count);
        return aside.mends.count;
    }

    public int written(int i) throws IndexOutOfBoundsException {
        if (i == -1) {
            return writer.count;
        }
        if (i < 0 || i >= writer.count) {
            throw new IndexOutOfBoundsException();
        }
        return writer.byteAt(i);
    }

    /**
     * What token begins at each place, should one begin there. It is found for all places at once, from the end to
     * the beginning, since a token, a head and a reference depend only on what stands behind.
     */
    private static final class Tokens {
        private final int[] starts;
        private final int[] ends;
        private final int[] kinds;
        private final int[] numbers;
        private byte[] bytes;
        private int size;

        Tokens(int most) {
            starts = new int[most + 1];
            ends = new int[most + 1];
            kinds = new int[most + 1];
            numbers = new int[most + 1];
            bytes = new byte[0];
            size = 0;
        }

        void index(byte[] row, int count) {
            bytes = row;
            size = Math.max(0, Math.min(count, Math.min(row.length, starts.length - 1)));
            setPlace(size, size, size, NOTHING);
            int newline = size;
            int stringEnd = size;
            for (int at = size - 1; at >= 0; at--) {
                int b = row[at] & 255;
                newline = b == NEWLINE ? at : newline;
                stringEnd = b == ')' ? at + 1 : stringEnd;
                if (b <= LAST_BLANK) {
                    setPlace(at, startFrom(at + 1), at + 1, NOTHING);
                } else if (b == '%') {
                    setPlace(at, startFrom(newline), newline, NOTHING);
                } else {
                    setPlace(at, at, b == '(' ? stringEnd : tokenEnd(at, b), OTHER);
                    numbers[at] = numberOf(at);
                    kinds[at] = numbers[at] >= 0 ? kindOfNumber(at) : kindOf(at, b);
                }
            }
        }

        private void setPlace(int at, int start, int end, int kind) {
            starts[at] = start;
            ends[at] = end;
            kinds[at] = kind;
            numbers[at] = -1;
        }

        private int tokenEnd(int at, int b) {
            int following = byteAt(at + 1);
            if (b == '/' || isRegular(b)) {
                return isRegular(following) ? endAt(at + 1) : at + 1;
            }
            return (b == '<' || b == '>') && following == b ? at + 2 : at + 1;
        }

        private int numberOf(int at) {
            int value = 0;
            int end = endAt(at);
            if (end - at > MOST_DIGITS) {
                return -1;
            }
            for (int i = at; i < end; i++) {
                int digit = byteAt(i) - '0';
                if (digit < 0 || digit > 9) {
                    return -1;
                }
                value = value * 10 + digit;
            }
            return value;
        }

        private int kindOf(int at, int b) {
            if (isRegular(b)) {
                return isText(at, "endobj") ? ENDOBJ : isText(at, "trailer") ? TRAILER : WORD;
            }
            boolean doubled = endAt(at) == at + 2;
            switch (b) {
                case '/':
                    return NAME;
                case '<':
                    return doubled ? OPEN : OTHER;
                case '>':
                    return doubled ? CLOSE : OTHER;
                case '[':
                    return ROW_OPEN;
                case ']':
                    return ROW_CLOSE;
                default:
                    return OTHER;
            }
        }

        private int kindOfNumber(int at) {
            int number = numberAt(at);
            int second = next(at);
            if (numberAt(second) < 0) {
                return NUMBER;
            }
            int third = next(second);
            if (isText(third, "R")) {
                return REFERENCE;
            }
            boolean fits = number >= 1 && number <= MOST_OBJECT;
            return fits && isText(third, "obj") ? HEAD : NUMBER;
        }

        private static boolean isRegular(int b) {
            switch (b) {
                case '(':
                case ')':
                case '<':
                case '>':
                case '[':
                case ']':
                case '{':
                case '}':
                case '/':
                case '%':
                    return false;
                default:
                    return b > LAST_BLANK;
            }
        }

        int byteAt(int at) {
            return at >= 0 && at < size ? bytes[at] & 255 : -1;
        }

        int startFrom(int at) {
            return at >= 0 && at <= size ? starts[at] : size;
        }

        int endAt(int at) {
            return at >= 0 && at <= size ? ends[at] : size;
        }

        int kindAt(int at) {
            return at >= 0 && at <= size ? kinds[at] : NOTHING;
        }

        int numberAt(int at) {
            return at >= 0 && at <= size ? numbers[at] : -1;
        }

        int next(int at) {
            return startFrom(endAt(at));
        }

        /** Behind the third token of a head or a reference. */
        int endOfThree(int at) {
            return endAt(next(next(at)));
        }

        boolean isText(int at, String text) {
            return endAt(at) - at == text.length() && standsAt(at, text);
        }

        boolean standsAt(int at, String text) {
            if (at < 0 || at > size - text.length()) {
                return false;
            }
            for (int i = 0; i < text.length(); i++) {
                if ((bytes[at + i] & 255) != text.charAt(i)) {
                    return false;
                }
            }
            return true;
        }
    }

    /** A row of numbers, each with the place where it begins and where it ends. */
    private static final class Marks {
        private final int[] numbers;
        private final int[] froms;
        private final int[] tos;
        private int count;

        Marks(int most) {
            numbers = new int[most];
            froms = new int[most];
            tos = new int[most];
            count = 0;
        }

        /** The rows are longer than any bytes can fill; the test only keeps the machine from throwing. */
        void put(int number, int from, int to) {
            if (count >= 0 && count < numbers.length && count < froms.length && count < tos.length) {
                numbers[count] = number;
                froms[count] = from;
                tos[count] = to;
                count++;
            }
        }

        void shortenTo(int fewer) {
            count = Math.max(0, Math.min(count, fewer));
        }

        int numberAt(int i) {
            return i >= 0 && i < count && i < numbers.length ? numbers[i] : -1;
        }

        int fromAt(int i) {
            return i >= 0 && i < count && i < froms.length ? froms[i] : -1;
        }

        int toAt(int i) {
            return i >= 0 && i < count && i < tos.length ? tos[i] : -1;
        }
    }

    /** What is kept of a dictionary: the keys that mean something, and where its references stand in their row. */
    private static final class Dictionary {
        private int from;
        private int to;
        private boolean closed;
        private int kind;
        private int pagesReference;
        private int length;
        private int root;
        private int sizeNumber;
        private int kidsFrom;
        private int kidsTo;
        private int referencesFrom;
        private int referencesTo;
        private int lengthsFrom;
        private int lengthsTo;

        void clearAt(int place, int firstReference, int firstLength) {
            from = place;
            to = place;
            closed = false;
            kind = 0;
            pagesReference = 0;
            length = -1;
            root = 0;
            sizeNumber = -1;
            kidsFrom = 0;
            kidsTo = 0;
            referencesFrom = firstReference;
            referencesTo = firstReference;
            lengthsFrom = firstLength;
            lengthsTo = firstLength;
        }

        void finish(int place, int referencesEnd, int lengthsEnd) {
            to = place;
            referencesTo = referencesEnd;
            lengthsTo = lengthsEnd;
        }
    }

    /** Reads dictionaries; it keeps all their references, and the pairs whose name is /Length, in rows. */
    private static final class DictionaryReader {
        private final Tokens tokens;
        private final Marks references;
        private final Marks lengths;
        private Dictionary into;
        private boolean inObject;

        DictionaryReader(Tokens tokens, Marks references, Marks lengths) {
            this.tokens = tokens;
            this.references = references;
            this.lengths = lengths;
            into = new Dictionary();
            inObject = false;
        }

        /** Answers the place behind its >>, or where that is missing the place of what ends it. */
        int read(Dictionary dictionary, int open, boolean ofObject) {
            into = dictionary;
            inObject = ofObject;
            into.clearAt(tokens.endAt(open), references.count, lengths.count);
            int at = tokens.next(open);
            for (int step = 0; step <= MOST_WRITTEN && !endsAt(at); step++) {
                int kind = tokens.kindAt(at);
                if (kind == CLOSE) {
                    into.closed = true;
                    at = tokens.endAt(at);
                    break;
                }
                int following = tokens.next(at);
                if (kind == NAME && tokens.kindAt(following) != CLOSE && !endsAt(following)) {
                    int firstReference = references.count;
                    int behind = takeValue(following);
                    keepPair(at, following, behind, firstReference);
                    following = tokens.startFrom(behind);
                }
                at = following;
            }
            into.finish(at, references.count, lengths.count);
            return at;
        }

        private boolean endsAt(int at) {
            int kind = tokens.kindAt(at);
            return kind == NOTHING || (inObject && endsObject(kind));
        }

        /** Only brackets of its own sort open and close it: "[ and all up to its ]". */
        private int takeValue(int value) {
            int opening = tokens.kindAt(value);
            int closing = opening == OPEN ? CLOSE : opening == ROW_OPEN ? ROW_CLOSE : NOTHING;
            int depth = 0;
            int at = value;
            for (int step = 0; step <= MOST_WRITTEN && !endsAt(at); step++) {
                int kind = tokens.kindAt(at);
                int behind = tokens.endAt(at);
                if (kind == REFERENCE) {
                    behind = tokens.endOfThree(at);
                    references.put(tokens.numberAt(at), at, behind);
                } else if (kind == closing) {
                    depth--;
                } else if (kind == opening && closing != NOTHING) {
                    depth++;
                }
                if (depth == 0) {
                    return behind;
                }
                at = tokens.startFrom(behind);
            }
            return at;
        }

        private void keepPair(int name, int value, int behind, int firstReference) {
            boolean isReference = tokens.kindAt(value) == REFERENCE;
            int number = tokens.numberAt(value);
            if (tokens.isText(name, "/Type")) {
                boolean isCatalogue = tokens.isText(value, "/Catalog");
                boolean isPages = tokens.isText(value, "/Pages");
                boolean isPage = tokens.isText(value, "/Page");
                into.kind = isCatalogue ? KIND_CATALOGUE : isPages ? KIND_PAGES : isPage ? KIND_PAGE : 0;
            } else if (tokens.isText(name, "/Pages")) {
                into.pagesReference = isReference ? number : 0;
            } else if (tokens.isText(name, "/Kids")) {
                into.kidsFrom = firstReference;
                into.kidsTo = references.count;
            } else if (tokens.isText(name, "/Length")) {
                into.length = isReference ? -1 : number;
                lengths.put(0, name, behind);
            } else if (tokens.isText(name, "/Root")) {
                into.root = isReference ? number : 0;
            } else if (tokens.isText(name, "/Size")) {
                into.sizeNumber = isReference ? -1 : number;
            }
        }
    }

    private static boolean endsObject(int tokenKind) {
        return tokenKind == ENDOBJ || tokenKind == TRAILER || tokenKind == HEAD;
    }

    /** An object as it was read. */
    private static final class Found {
        private final Dictionary dictionary;
        private boolean isThere;
        private int head;
        private int text;
        private int end;
        private boolean endedByWord;
        private boolean hasStream;
        private boolean lengthHolds;
        private boolean streamEnds;
        private int dataFrom;
        private int dataTo;

        Found() {
            dictionary = new Dictionary();
        }

        void beginAt(int headPlace, int textPlace, int firstReference, int firstLength) {
            dictionary.clearAt(textPlace, firstReference, firstLength);
            isThere = false;
            head = headPlace;
            text = textPlace;
            end = textPlace;
            endedByWord = false;
            hasStream = false;
            lengthHolds = false;
            streamEnds = false;
            dataFrom = 0;
            dataTo = 0;
        }
    }

    /** One scan and all that it found. The tokens are lent: they mean something only while it runs. */
    private static final class Scan {
        private final Tokens tokens;
        private final byte[] bytes;
        private int size;
        private final Marks references;
        private final Marks lengths;
        private final Marks mends;
        private final Marks repeats;
        private final DictionaryReader reader;
        private final Dictionary trailerDictionary;
        private final Found[] objects;
        private Found current;
        private int objectCount;
        private int cutObject;
        private int trailerRoot;
        private int trailerSize;
        private int chosenCatalogue;
        private final PageList pageList;

        Scan(Tokens tokens, int most) {
            this.tokens = tokens;
            bytes = new byte[most];
            size = 0;
            // The shortest reference takes six bytes, the shortest pair of /Length and the shortest object eight;
            // an object can bring two mends.
            references = new Marks(most / 5 + 1);
            lengths = new Marks(most / 8 + 1);
            mends = new Marks(most / 3 + 10);
            repeats = new Marks(most / 7 + 1);
            reader = new DictionaryReader(tokens, references, lengths);
            trailerDictionary = new Dictionary();
            objects = new Found[MOST_OBJECT + 1];
            for (int i = 0; i < objects.length; i++) {
                objects[i] = new Found();
            }
            current = new Found();
            pageList = new PageList();
        }

        void run(byte[] from, int count) {
            takeBytes(from, count);
            int at = tokens.startFrom(0);
            for (int step = 0; step <= MOST_WRITTEN && tokens.kindAt(at) != NOTHING; step++) {
                int kind = tokens.kindAt(at);
                if (kind == HEAD) {
                    at = takeObject(at);
                } else {
                    if (kind == TRAILER) {
                        takeTrailer(at);
                    }
                    at = tokens.next(at);
                }
            }
            tellReferencesToNothing();
            chooseCatalogue();
            choosePages();
        }

        private void takeBytes(byte[] from, int count) {
            size = Math.max(0, Math.min(count, Math.min(from.length, bytes.length)));
            System.arraycopy(from, 0, bytes, 0, size);
            tokens.index(bytes, size);
            references.shortenTo(0);
            lengths.shortenTo(0);
            mends.shortenTo(0);
            repeats.shortenTo(0);
            for (int i = 0; i < objects.length; i++) {
                objects[i].isThere = false;
            }
            objectCount = 0;
            cutObject = 0;
            trailerRoot = 0;
            trailerSize = 0;
            chosenCatalogue = 0;
            if (!tokens.standsAt(0, "%P")) {
                mend(MEND_NO_BEGINNING, 0);
            }
        }

        private void mend(int number, int place) {
            mends.put(number, place, place);
        }

        /** Answers where to go on. */
        private int takeObject(int head) {
            int text = tokens.endOfThree(head);
            int at = tokens.startFrom(text);
            current.beginAt(head, text, references.count, lengths.count);
            if (tokens.kindAt(at) == OPEN) {
                at = tokens.startFrom(reader.read(current.dictionary, at, true));
                boolean isStream = current.dictionary.closed && tokens.isText(at, "stream");
                if (isStream && tokens.byteAt(tokens.endAt(at)) == NEWLINE) {
                    at = tokens.startFrom(takeStream(tokens.endAt(at) + 1));
                }
            }
            for (int step = 0; step <= MOST_WRITTEN && !isEnd(tokens.kindAt(at)); step++) {
                at = tokens.next(at);
            }
            endObject(tokens.numberAt(head), at);
            return tokens.kindAt(at) == ENDOBJ ? tokens.next(at) : at;
        }

        private static boolean isEnd(int tokenKind) {
            return tokenKind == NOTHING || endsObject(tokenKind);
        }

        /** Answers the place behind endstream, or the size where there is none. */
        private int takeStream(int data) {
            current.hasStream = true;
            current.dataFrom = data;
            int ending = endingByLength(data);
            current.lengthHolds = ending >= 0;
            if (current.lengthHolds) {
                current.dataTo = data + current.dictionary.length;
            } else {
                mend(MEND_WRONG_LENGTH, data);
                ending = endingByWord(data);
                boolean newlineBefore = ending > data && tokens.byteAt(ending - 1) == NEWLINE;
                current.dataTo = newlineBefore ? ending - 1 : ending;
            }
            current.streamEnds = ending >= 0;
            if (!current.streamEnds) {
                mend(MEND_NO_STREAM_END, data);
                current.dataTo = size;
                return size;
            }
            return ending + ENDSTREAM.length();
        }

        private int endingByLength(int data) {
            int length = current.dictionary.length;
            if (length < 0 || length > size - data) {
                return -1;
            }
            int behind = data + length;
            if (tokens.standsAt(behind, ENDSTREAM)) {
                return behind;
            }
            boolean afterNewline = tokens.byteAt(behind) == NEWLINE && tokens.standsAt(behind + 1, ENDSTREAM);
            return afterNewline ? behind + 1 : -1;
        }

        private int endingByWord(int data) {
            for (int at = data; at <= size - ENDSTREAM.length(); at++) {
                if (tokens.standsAt(at, ENDSTREAM)) {
                    return at;
                }
            }
            return -1;
        }

        private void endObject(int number, int at) {
            int kind = tokens.kindAt(at);
            current.end = at;
            current.endedByWord = kind == ENDOBJ;
            if (kind == NOTHING && !current.hasStream) {
                cutObject = number;
                mend(MEND_CUT, current.head);
                return;
            }
            if (kind != ENDOBJ && (!current.hasStream || current.streamEnds)) {
                mend(MEND_NO_END, at);
            }
            keepCurrent(number);
        }

        /** The earlier object of this number becomes the one that is read into next. */
        private void keepCurrent(int number) {
            if (number < 1 || number >= objects.length) {
                return;
            }
            Found earlier = objects[number];
            if (earlier.isThere) {
                mend(MEND_EQUAL_NUMBER, earlier.head);
                repeats.put(number, current.head, current.end);
            } else {
                objectCount++;
            }
            current.isThere = true;
            objects[number] = current;
            current = earlier;
        }

        private void takeTrailer(int word) {
            int open = tokens.next(word);
            if (tokens.kindAt(open) != OPEN) {
                return;
            }
            int referencesBefore = references.count;
            int lengthsBefore = lengths.count;
            reader.read(trailerDictionary, open, false);
            references.shortenTo(referencesBefore);
            lengths.shortenTo(lengthsBefore);
            if (trailerDictionary.root > 0) {
                trailerRoot = trailerDictionary.root;
            }
            if (trailerDictionary.sizeNumber >= 0) {
                trailerSize = trailerDictionary.sizeNumber;
            }
        }

        /** Null when there is no such object. */
        Found objectOf(int number) {
            if (number < 1 || number >= objects.length) {
                return null;
            }
            return objects[number].isThere ? objects[number] : null;
        }

        int kindOf(int number) {
            Found it = objectOf(number);
            return it == null ? 0 : it.dictionary.kind;
        }

        int byteAt(int at) {
            return at >= 0 && at < size && at < bytes.length ? bytes[at] & 255 : -1;
        }

        private void tellReferencesToNothing() {
            for (int number = 1; number <= MOST_OBJECT; number++) {
                Found it = objectOf(number);
                if (it == null) {
                    continue;
                }
                for (int i = it.dictionary.referencesFrom; i < it.dictionary.referencesTo; i++) {
                    if (objectOf(references.numberAt(i)) == null) {
                        mend(MEND_TO_NOTHING, it.head);
                    }
                }
            }
        }

        private void chooseCatalogue() {
            if (kindOf(trailerRoot) == KIND_CATALOGUE) {
                chosenCatalogue = trailerRoot;
                return;
            }
            mend(MEND_NO_ROOT, 0);
            int guess = lastCatalogue(true);
            chosenCatalogue = guess > 0 ? guess : lastCatalogue(false);
            Found it = objectOf(chosenCatalogue);
            if (it != null) {
                mend(MEND_GUESSED_CATALOGUE, it.head);
            }
        }

        private int lastCatalogue(boolean withPages) {
            int last = 0;
            int lastHead = -1;
            for (int number = 1; number <= MOST_OBJECT; number++) {
                Found it = objectOf(number);
                if (it == null || it.dictionary.kind != KIND_CATALOGUE || it.head < lastHead) {
                    continue;
                }
                if (!withPages || kindOf(it.dictionary.pagesReference) == KIND_PAGES) {
                    last = number;
                    lastHead = it.head;
                }
            }
            return last;
        }

        private void choosePages() {
            pageList.clear();
            Found top = objectOf(chosenCatalogue);
            if (top != null) {
                pageList.follow(this, top.dictionary.pagesReference);
            }
            int all = 0;
            for (int number = 1; number <= MOST_OBJECT; number++) {
                all += kindOf(number) == KIND_PAGE ? 1 : 0;
            }
            if (all != pageList.count) {
                pageList.takeAll(this);
                mend(MEND_ALL_PAGES, 0);
            }
        }
    }

    /** The pages in their order. Every object is entered once, so that Kids that go round end. */
    private static final class PageList {
        private final int[] row;
        private int count;
        private final boolean[] seen;
        private final int[] kidsAt;
        private final int[] kidsTo;
        private int depth;

        PageList() {
            row = new int[MOST_OBJECT + 1];
            seen = new boolean[MOST_OBJECT + 1];
            kidsAt = new int[MOST_OBJECT + 1];
            kidsTo = new int[MOST_OBJECT + 1];
            count = 0;
            depth = 0;
        }

        void clear() {
            count = 0;
            depth = 0;
            for (int i = 0; i < seen.length; i++) {
                seen[i] = false;
            }
        }

        int objectAt(int i) {
            return i >= 0 && i < count && i < row.length ? row[i] : 0;
        }

        void follow(Scan scan, int top) {
            if (scan.kindOf(top) == KIND_PAGES) {
                visit(scan, top);
            }
            // A step takes a reference or leaves an object, and each of these is done once.
            int mostSteps = MOST_WRITTEN + MOST_OBJECT;
            for (int step = 0; step < mostSteps && depth > 0 && depth <= kidsAt.length; step++) {
                int level = depth - 1;
                if (kidsAt[level] < kidsTo[level]) {
                    int kid = scan.references.numberAt(kidsAt[level]);
                    kidsAt[level]++;
                    visit(scan, kid);
                } else {
                    depth--;
                }
            }
        }

        private void visit(Scan scan, int object) {
            Found it = scan.objectOf(object);
            if (it == null || object < 0 || object >= seen.length || seen[object]) {
                return;
            }
            seen[object] = true;
            if (it.dictionary.kind == KIND_PAGE) {
                append(object);
            } else if (it.dictionary.kind == KIND_PAGES && depth >= 0 && depth < kidsAt.length) {
                kidsAt[depth] = it.dictionary.kidsFrom;
                kidsTo[depth] = it.dictionary.kidsTo;
                depth++;
            }
        }

        void takeAll(Scan scan) {
            count = 0;
            for (int number = 1; number <= MOST_OBJECT; number++) {
                if (scan.kindOf(number) == KIND_PAGE) {
                    append(number);
                }
            }
        }

        private void append(int object) {
            if (count >= 0 && count < row.length) {
                row[count] = object;
                count++;
            }
        }
    }

    /** Writes a scan anew; what is beyond the row is dropped. */
    private static final class Writer {
        private final byte[] row;
        private int count;

        Writer() {
            row = new byte[MOST_WRITTEN];
            count = 0;
        }

        int byteAt(int i) {
            return i >= 0 && i < count && i < row.length ? row[i] & 255 : -1;
        }

        void writeAll(Scan scan) {
            count = 0;
            putText("%P\n");
            for (int number = 1; number <= MOST_OBJECT; number++) {
                Found it = scan.objectOf(number);
                if (it != null) {
                    writeObject(scan, it, number);
                }
            }
            if (scan.chosenCatalogue > 0) {
                putText("trailer << /Root ");
                putNumber(scan.chosenCatalogue);
                putText(" 0 R >>\n");
            }
        }

        private void writeObject(Scan scan, Found it, int number) {
            putNumber(number);
            putText(" 0 obj\n");
            if (it.hasStream) {
                writeStream(scan, it);
            } else {
                writePlain(scan, it);
            }
            putText("\nendobj\n");
        }

        private void writePlain(Scan scan, Found it) {
            int from = it.text;
            int to = it.end;
            while (from < to && scan.byteAt(from) <= LAST_BLANK) {
                from++;
            }
            while (from < to && scan.byteAt(to - 1) <= LAST_BLANK) {
                to--;
            }
            copyMended(scan, it.dictionary, from, to, false);
        }

        private void writeStream(Scan scan, Found it) {
            putText("<< /Length ");
            putNumber(it.dataTo - it.dataFrom);
            putText(" ");
            copyMended(scan, it.dictionary, it.dictionary.from, it.dictionary.to, true);
            putText(" stream\n");
            for (int at = it.dataFrom; at < it.dataTo; at++) {
                put(scan.byteAt(at));
            }
            putText("\nendstream");
        }

        /** Both rows of marks stand in the order of their places, so one pass meets each in its turn. */
        private void copyMended(Scan scan, Dictionary dictionary, int from, int to, boolean withoutLengths) {
            int reference = dictionary.referencesFrom;
            int length = dictionary.lengthsFrom;
            int at = from;
            while (at < to) {
                while (reference < dictionary.referencesTo && scan.references.fromAt(reference) < at) {
                    reference++;
                }
                while (length < dictionary.lengthsTo && scan.lengths.fromAt(length) < at) {
                    length++;
                }
                boolean atReference = reference < dictionary.referencesTo && scan.references.fromAt(reference) == at;
                boolean atLength = length < dictionary.lengthsTo && scan.lengths.fromAt(length) == at;
                if (withoutLengths && atLength) {
                    at = Math.max(at + 1, scan.lengths.toAt(length));
                } else if (atReference && scan.objectOf(scan.references.numberAt(reference)) == null) {
                    putText("null");
                    at = Math.max(at + 1, scan.references.toAt(reference));
                } else {
                    put(scan.byteAt(at));
                    at++;
                }
            }
        }

        private void put(int b) {
            if (count >= 0 && count < row.length) {
                row[count] = (byte) b;
                count++;
            }
        }

        private void putText(String text) {
            for (int i = 0; i < text.length(); i++) {
                put(text.charAt(i));
            }
        }

        private void putNumber(int number) {
            boolean begun = false;
            for (int unit = 10000; unit > 0; unit = unit / 10) {
                int digit = number / unit % 10;
                begun = begun || digit > 0 || unit == 1;
                if (begun) {
                    put('0' + digit);
                }
            }
        }
    }
}
