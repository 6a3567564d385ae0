import java.util.ArrayList;
import java.util.HashSet;
import java.util.List;
import java.util.Map;
import java.util.Set;
import java.util.TreeMap;
import java.util.regex.Matcher;
import java.util.regex.Pattern;

/**
 * The document once more, for the tests alone and in the Java library's own ways (patterns, lists, texts), so that a
 * slip in the one is not likely to stand in the other. One object is one scan; nothing is changed behind that.
 */
final class PlainRepair {
    record Token(String text, int from, int to) {
        boolean isNumber() {
            return text.matches("[0-9]{1,6}");
        }

        boolean isName() {
            return text.startsWith("/");
        }
    }

    record Reference(int to, int from, int end) {
    }

    record Pair(String name, int from, int to, List<Token> value, List<Reference> references) {
        boolean isReference() {
            return value.size() == 3 && references.size() == 1;
        }

        boolean isNumber() {
            return value.size() == 1 && value.get(0).isNumber();
        }
    }

    static final class Dictionary {
        int from;
        int to;
        boolean closed;
        int tokensUsed;
        final List<Pair> pairs = new ArrayList<>();

        Pair last(String name) {
            Pair last = null;
            for (Pair pair : pairs) {
                if (pair.name.equals(name)) {
                    last = pair;
                }
            }
            return last;
        }

        int reference(String name) {
            Pair pair = last(name);
            return pair != null && pair.isReference() ? pair.references.get(0).to : 0;
        }

        int number(String name) {
            Pair pair = last(name);
            return pair != null && pair.isNumber() ? Integer.parseInt(pair.value.get(0).text) : -1;
        }

        List<Reference> references() {
            List<Reference> all = new ArrayList<>();
            for (Pair pair : pairs) {
                all.addAll(pair.references);
            }
            return all;
        }

        int kind() {
            Pair type = last("/Type");
            if (type == null || type.value.size() != 1) {
                return 0;
            }
            return Math.max(0, List.of("", "/Catalog", "/Pages", "/Page").indexOf(type.value.get(0).text));
        }
    }

    static final class Thing {
        int number;
        int head;
        int text;
        int end;
        Dictionary dictionary = new Dictionary();
        String data;
        boolean whole;
    }

    private static final Pattern TOKEN = Pattern.compile("\\G(?:[\\x00-\\x20]|%[^\\n]*)*+"
            + "(<<|>>|[\\[\\]<>){}]|/[^\\x00-\\x20()<>\\[\\]{}/%]*|\\([^)]*\\)?|[^\\x00-\\x20()<>\\[\\]{}/%]+)");

    final String bytes;
    final TreeMap<Integer, Thing> things = new TreeMap<>();
    final List<int[]> mends = new ArrayList<>();
    final List<Integer> twice = new ArrayList<>();
    final List<Integer> pages = new ArrayList<>();
    int cut;
    int root;
    int size;
    int catalogue;

    PlainRepair(String bytes) {
        this.bytes = bytes;
        if (!bytes.startsWith("%P")) {
            mend(9, 0);
        }
        goThrough();
        lookAtReferences();
        chooseCatalogue();
        choosePages();
    }

    private void mend(int number, int place) {
        mends.add(new int[] {number, place});
    }

    /** All tokens from a place on; where the objects' ends matter, up to the first of these. */
    private List<Token> tokens(int from, boolean toEnd) {
        List<Token> all = new ArrayList<>();
        Matcher matcher = TOKEN.matcher(bytes);
        int at = from;
        while (matcher.find(at)) {
            all.add(new Token(matcher.group(1), matcher.start(1), matcher.end(1)));
            at = matcher.end(1);
        }
        if (toEnd) {
            for (int i = 0; i < all.size(); i++) {
                String text = all.get(i).text;
                if (text.equals("endobj") || text.equals("trailer") || isHead(all, i)) {
                    return all.subList(0, i + 1);
                }
            }
            all.add(new Token("", bytes.length(), bytes.length()));
        }
        return all;
    }

    private static boolean isThree(List<Token> all, int i, String word) {
        return i + 2 < all.size() && all.get(i).isNumber() && all.get(i + 1).isNumber()
                && all.get(i + 2).text.equals(word);
    }

    private static boolean isHead(List<Token> all, int i) {
        if (!isThree(all, i, "obj")) {
            return false;
        }
        int number = Integer.parseInt(all.get(i).text);
        return number >= 1 && number <= 60;
    }

    private void goThrough() {
        int at = 0;
        while (true) {
            List<Token> all = tokens(at, false);
            int i = 0;
            while (i < all.size() && !isHead(all, i)) {
                if (all.get(i).text.equals("trailer")) {
                    trailer(all.subList(i + 1, all.size()));
                }
                i++;
            }
            if (i == all.size()) {
                return;
            }
            at = object(all.get(i), all.get(i + 2).to);
        }
    }

    private void trailer(List<Token> behind) {
        if (behind.isEmpty() || !behind.get(0).text.equals("<<")) {
            return;
        }
        Dictionary dictionary = dictionary(behind);
        root = dictionary.reference("/Root") > 0 ? dictionary.reference("/Root") : root;
        size = dictionary.number("/Size") >= 0 ? dictionary.number("/Size") : size;
    }

    private Dictionary dictionary(List<Token> all) {
        Dictionary it = new Dictionary();
        it.from = all.get(0).to;
        int i = 1;
        while (i < all.size() && !all.get(i).text.equals(">>")) {
            boolean isPair = all.get(i).isName() && i + 1 < all.size() && !all.get(i + 1).text.equals(">>");
            if (!isPair) {
                i++;
                continue;
            }
            int end = valueEnd(all, i + 1);
            List<Token> value = all.subList(i + 1, end);
            it.pairs.add(new Pair(all.get(i).text, all.get(i).from, value.get(value.size() - 1).to, value,
                    references(value)));
            i = end;
        }
        it.closed = i < all.size();
        it.to = it.closed ? all.get(i).to : bytes.length();
        it.tokensUsed = Math.min(all.size(), i + 1);
        return it;
    }

    private static int valueEnd(List<Token> all, int i) {
        if (isThree(all, i, "R")) {
            return i + 3;
        }
        String open = all.get(i).text;
        String close = open.equals("[") ? "]" : open.equals("<<") ? ">>" : null;
        if (close == null) {
            return i + 1;
        }
        int depth = 1;
        int at = i + 1;
        while (at < all.size() && depth > 0) {
            String text = all.get(at).text;
            depth += text.equals(open) ? 1 : text.equals(close) ? -1 : 0;
            at++;
        }
        return at;
    }

    private static List<Reference> references(List<Token> value) {
        List<Reference> all = new ArrayList<>();
        for (int i = 0; i < value.size(); i++) {
            if (isThree(value, i, "R")) {
                Token first = value.get(i);
                all.add(new Reference(Integer.parseInt(first.text), first.from, value.get(i + 2).to));
            }
        }
        return all;
    }

    private int object(Token head, int text) {
        Thing it = new Thing();
        it.number = Integer.parseInt(head.text);
        it.head = head.from;
        it.text = text;
        List<Token> all = tokens(text, true);
        boolean lengthHolds = true;
        if (all.get(0).text.equals("<<")) {
            it.dictionary = dictionary(all.subList(0, all.size() - 1));
            Token next = it.dictionary.closed ? all.get(it.dictionary.tokensUsed) : null;
            if (next != null && next.text.equals("stream") && bytes.startsWith("\n", next.to)) {
                int data = next.to + 1;
                int n = it.dictionary.number("/Length");
                lengthHolds = n >= 0 && data + n <= bytes.length()
                        && bytes.substring(data + n).matches("(?s)\\n?endstream.*");
                int behind;
                if (lengthHolds) {
                    it.data = bytes.substring(data, data + n);
                    behind = bytes.indexOf("endstream", data + n) + 9;
                } else {
                    mend(3, data);
                    int word = bytes.indexOf("endstream", data);
                    it.data = word < 0 ? bytes.substring(data) : bytes.substring(data, word).replaceFirst("\\n\\z", "");
                    behind = word + 9;
                    if (word < 0) {
                        mend(2, data);
                        it.end = bytes.length();
                        keep(it);
                        return it.end;
                    }
                }
                all = tokens(behind, true);
            }
        }
        Token last = all.get(all.size() - 1);
        it.end = last.from;
        if (last.text.isEmpty() && it.data == null) {
            cut = it.number;
            mend(10, it.head);
            return it.end;
        }
        it.whole = lengthHolds && last.text.equals("endobj");
        if (!last.text.equals("endobj")) {
            mend(1, last.from);
        }
        keep(it);
        return last.text.equals("endobj") ? last.to : last.from;
    }

    private void keep(Thing it) {
        Thing earlier = things.put(it.number, it);
        if (earlier != null) {
            mend(4, earlier.head);
            twice.add(it.number);
        }
    }

    private int kind(int number) {
        return things.containsKey(number) ? things.get(number).dictionary.kind() : 0;
    }

    private void lookAtReferences() {
        for (Thing it : things.values()) {
            for (Reference reference : it.dictionary.references()) {
                if (!things.containsKey(reference.to)) {
                    mend(5, it.head);
                }
            }
        }
    }

    private void chooseCatalogue() {
        if (kind(root) == 1) {
            catalogue = root;
            return;
        }
        mend(6, 0);
        List<Thing> all = new ArrayList<>(things.values());
        all.removeIf(it -> it.dictionary.kind() != 1);
        List<Thing> better = new ArrayList<>(all);
        better.removeIf(it -> kind(it.dictionary.reference("/Pages")) != 2);
        List<Thing> choice = better.isEmpty() ? all : better;
        choice.sort((a, b) -> Integer.compare(a.head, b.head));
        if (!choice.isEmpty()) {
            Thing last = choice.get(choice.size() - 1);
            catalogue = last.number;
            mend(7, last.head);
        }
    }

    private void choosePages() {
        Thing top = things.get(catalogue);
        if (top != null && kind(top.dictionary.reference("/Pages")) == 2) {
            descend(top.dictionary.reference("/Pages"), new HashSet<>());
        }
        List<Integer> all = new ArrayList<>();
        for (Map.Entry<Integer, Thing> entry : things.entrySet()) {
            if (entry.getValue().dictionary.kind() == 3) {
                all.add(entry.getKey());
            }
        }
        if (!pages.containsAll(all)) {
            pages.clear();
            pages.addAll(all);
            mend(8, 0);
        }
    }

    private void descend(int number, Set<Integer> seen) {
        int kind = kind(number);
        if ((kind != 2 && kind != 3) || !seen.add(number)) {
            return;
        }
        if (kind == 3) {
            pages.add(number);
            return;
        }
        Pair kids = things.get(number).dictionary.last("/Kids");
        if (kids != null) {
            for (Reference reference : kids.references) {
                descend(reference.to, seen);
            }
        }
    }

    String writtenAnew() {
        StringBuilder out = new StringBuilder("%P\n");
        for (Thing it : things.values()) {
            out.append(it.number).append(" 0 obj\n").append(textAnew(it)).append("\nendobj\n");
        }
        if (catalogue > 0) {
            out.append("trailer << /Root ").append(catalogue).append(" 0 R >>\n");
        }
        return out.length() > 3000 ? out.substring(0, 3000) : out.toString();
    }

    private String textAnew(Thing it) {
        if (it.data == null) {
            String text = changed(it, it.text, it.end, false);
            return text.replaceFirst("\\A[\\x00-\\x20]+", "").replaceFirst("[\\x00-\\x20]+\\z", "");
        }
        String dictionary = changed(it, it.dictionary.from, it.dictionary.to, true);
        return "<< /Length " + it.data.length() + " " + dictionary + " stream\n" + it.data + "\nendstream";
    }

    /** From the end to the beginning, so that a change does not move the places of those before it. */
    private String changed(Thing it, int from, int to, boolean withoutLength) {
        StringBuilder text = new StringBuilder(bytes.substring(0, to));
        for (int p = it.dictionary.pairs.size() - 1; p >= 0; p--) {
            Pair pair = it.dictionary.pairs.get(p);
            if (withoutLength && pair.name.equals("/Length")) {
                text.delete(pair.from, pair.to);
                continue;
            }
            for (int r = pair.references.size() - 1; r >= 0; r--) {
                Reference reference = pair.references.get(r);
                if (!things.containsKey(reference.to)) {
                    text.replace(reference.from, reference.end, "null");
                }
            }
        }
        return text.substring(from);
    }
}
