import java.util.ArrayList;
import java.util.List;
import java.util.NoSuchElementException;

/**
 * Every refused call, in every state: which exception it throws, and that all is as it was behind it. Of two equal
 * objects one is asked what it must refuse; then both must look alike, and go on alike.
 */
public final class RepairScanRefusals extends Checks {
    private static final Class<?> NONE = NoSuchElementException.class;
    private static final Class<?> BEYOND = IndexOutOfBoundsException.class;
    private static final int[] FAR = {Integer.MIN_VALUE, Integer.MIN_VALUE + 1, -3, -2, Integer.MAX_VALUE - 1,
        Integer.MAX_VALUE};
    /** Object 5 has data, 6 a stream without, 2 .. 4 none; 4 was three times there; 8 was cut; 61 is no object. */
    private static final String RICH = "1 0 obj<</Type/Catalog/Pages 2 0 R>>endobj 2 0 obj<</Type/Pages/Kids[4 0 R 3 0 R]>>"
            + "endobj 3 0 obj<</Type/Page>>endobj 4 0 obj endobj 4 0 obj<</A 9 0 R>> 4 0 obj<</Type/Page>>endobj"
            + " 5 0 obj<</Length 9>>stream\nabc\nendstream endobj 6 0 obj<</Length 0>>stream\nendstream endobj"
            + " 61 0 obj endobj trailer<</Root 1 0 R/Size 7>> 8 0 obj<<";
    private static final String SECOND = "%P\n1 0 obj<</Length 1>>stream\nxendstream endobj";
    private static final String WAITING = "%P\n7 0 obj<</A 9 0 R>>stream\nxy";

    private interface Asking {
        long answer(RepairScan x);
    }

    private record Refused(String label, Class<?> exception, Asking asking) {
    }

    private enum State {
        NEW, BYTES_WAIT, FULL, NOTHING_FOUND, SCANNED, WRITTEN, WRITTEN_BYTES_WAIT, WRITTEN_FULL, SCANNED_TWICE;

        RepairScan make() {
            RepairScan x = new RepairScan();
            boolean isRich = ordinal() >= SCANNED.ordinal();
            if (this == NOTHING_FOUND || isRich) {
                put(x, isRich ? RICH : "x");
                x.scan();
            }
            if (this == SCANNED_TWICE) {
                put(x, SECOND);
                x.scan();
            }
            if (isWritten()) {
                x.again();
            }
            if (this == BYTES_WAIT || this == WRITTEN_BYTES_WAIT) {
                put(x, WAITING);
            }
            if (isFull()) {
                put(x, WAITING + "z".repeat(1500 - WAITING.length()));
            }
            return x;
        }

        /** What was scanned last; what is refused is known by it, and not by asking the class that is tested. */
        PlainRepair known() {
            String file = this == SCANNED_TWICE ? SECOND : ordinal() >= SCANNED.ordinal() ? RICH : "x";
            return new PlainRepair(file);
        }

        boolean isScanned() {
            return ordinal() >= NOTHING_FOUND.ordinal();
        }

        boolean isWritten() {
            return ordinal() >= WRITTEN.ordinal() && this != SCANNED_TWICE;
        }

        boolean isFull() {
            return this == FULL || this == WRITTEN_FULL;
        }

        boolean hasBytes() {
            return isFull() || this == BYTES_WAIT || this == WRITTEN_BYTES_WAIT;
        }
    }

    private RepairScanRefusals() {
    }

    public static void main(String[] args) {
        runTests(RepairScanRefusals.class);
    }

    // ---- the tests

    private static void add_refusesTheByteBehind1500() {
        for (State state : State.values()) {
            List<Refused> all = new ArrayList<>();
            for (int b : new int[] {0, 10, 127, -1, -128}) {
                all.add(new Refused("add(" + b + ")", UnsupportedOperationException.class, x -> {
                    x.add((byte) b);
                    return 0;
                }));
            }
            refuseAll(state, state.isFull() ? all : List.of());
        }
    }

    private static void scan_refusesNoBytes() {
        for (State state : State.values()) {
            refuseAll(state, state.hasBytes() ? List.of()
                    : List.of(new Refused("scan()", IllegalStateException.class, RepairScan::scan)));
        }
    }

    private static void found_refusesWhatIsNoObject() {
        for (State state : State.values()) {
            List<Refused> all = new ArrayList<>();
            for (int object : notThere(state)) {
                for (int what : new int[] {0, 4}) {
                    all.add(new Refused("found(" + object + ", " + what + ")", NONE, x -> x.found(object, what)));
                }
            }
            refuseAll(state, all);
        }
    }

    private static void found_refusesWhatIsNotAsked() {
        for (State state : State.values()) {
            List<Refused> all = new ArrayList<>();
            for (int object : there(state)) {
                for (int what : beside(0, 4)) {
                    all.add(new Refused("found(" + object + ", " + what + ")", BEYOND, x -> x.found(object, what)));
                }
                accepts(state, "what 0 and 4", x -> x.found(object, 0) + x.found(object, 4));
            }
            refuseAll(state, all);
        }
    }

    private static void found_namesNoSuchObjectFirst() {
        for (State state : State.values()) {
            List<Refused> all = new ArrayList<>();
            for (int object : notThere(state)) {
                for (int what : new int[] {-1, 5, Integer.MIN_VALUE, Integer.MAX_VALUE}) {
                    all.add(new Refused("found(" + object + ", " + what + ")", NONE, x -> x.found(object, what)));
                }
            }
            refuseAll(state, all);
        }
    }

    private static void mended_refusesIBesideTheMends() {
        for (State state : State.values()) {
            int count = mendsOf(state);
            List<Refused> all = new ArrayList<>();
            for (int i : behind(count)) {
                for (int what : new int[] {0, 1, 2, -1}) {
                    all.add(new Refused("mended(" + i + ", " + what + ")", BEYOND, x -> x.mended(i, what)));
                }
            }
            refuseAll(state, all);
            if (count > 0) {
                accepts(state, "the first and the last", x -> x.mended(0, 0) + x.mended(count - 1, 1));
            }
        }
    }

    private static void mended_refusesWhatIsNotAsked() {
        for (State state : State.values()) {
            int count = mendsOf(state);
            List<Refused> all = new ArrayList<>();
            for (int what : beside(0, 1)) {
                for (int i = 0; i < count; i += Math.max(1, count - 1)) {
                    int at = i;
                    all.add(new Refused("mended(" + at + ", " + what + ")", BEYOND, x -> x.mended(at, what)));
                }
            }
            refuseAll(state, all);
        }
    }

    private static void page_refusesIBesideThePages() {
        for (State state : State.values()) {
            int count = state.known().pages.size();
            List<Refused> all = new ArrayList<>();
            for (int i : beside(0, count - 1)) {
                all.add(new Refused("page(" + i + ")", BEYOND, x -> x.page(i)));
            }
            refuseAll(state, all);
            if (count > 0) {
                accepts(state, "the first and the last", x -> x.page(0) + x.page(count - 1));
            }
        }
    }

    private static void trailer_refusesOtherKeys() {
        for (State state : State.values()) {
            List<Refused> all = new ArrayList<>();
            for (int key : beside(0, 1)) {
                all.add(new Refused("trailer(" + key + ")", BEYOND, x -> x.trailer(key)));
            }
            refuseAll(state, all);
            accepts(state, "0 and 1", x -> x.trailer(0) + x.trailer(1));
        }
    }

    private static void stream_refusesWhatIsNoObject() {
        for (State state : State.values()) {
            List<Refused> all = new ArrayList<>();
            for (int object : notThere(state)) {
                all.add(new Refused("stream(" + object + ", -1)", NONE, x -> x.stream(object, -1)));
                all.add(new Refused("stream(" + object + ", 0)", NONE, x -> x.stream(object, 0)));
            }
            refuseAll(state, all);
        }
    }

    private static void stream_refusesAnObjectWithoutOne() {
        for (State state : State.values()) {
            List<Refused> all = new ArrayList<>();
            for (int object : there(state)) {
                if (dataIn(state, object) == null) {
                    all.add(new Refused("stream(" + object + ", -1)", NONE, x -> x.stream(object, -1)));
                    all.add(new Refused("stream(" + object + ", 0)", NONE, x -> x.stream(object, 0)));
                } else {
                    accepts(state, "a stream", x -> x.stream(object, -1));
                }
            }
            refuseAll(state, all);
        }
    }

    private static void stream_refusesIBesideTheData() {
        for (State state : State.values()) {
            List<Refused> all = new ArrayList<>();
            for (int object : there(state)) {
                if (dataIn(state, object) == null) {
                    continue;
                }
                int count = dataIn(state, object).length();
                for (int i : behind(count)) {
                    all.add(new Refused("stream(" + object + ", " + i + ")", BEYOND, x -> x.stream(object, i)));
                }
                if (count > 0) {
                    accepts(state, "the first and the last", x -> x.stream(object, 0) + x.stream(object, count - 1));
                }
            }
            refuseAll(state, all);
        }
    }

    private static void stream_namesNoSuchElementFirst() {
        for (State state : State.values()) {
            List<Refused> all = new ArrayList<>();
            for (int object = 0; object <= 61; object++) {
                int number = object;
                boolean hasNone = dataIn(state, object) == null;
                for (int i : new int[] {-2, 9999, Integer.MIN_VALUE, Integer.MAX_VALUE}) {
                    if (hasNone && (object < 10 || object > 59)) {
                        all.add(new Refused("stream(" + number + ", " + i + ")", NONE, x -> x.stream(number, i)));
                    }
                }
            }
            refuseAll(state, all);
        }
    }

    private static void whole_refusesWhatIsNoObject() {
        for (State state : State.values()) {
            List<Refused> all = new ArrayList<>();
            for (int object : notThere(state)) {
                all.add(new Refused("whole(" + object + ")", NONE, x -> x.whole(object) ? 1 : 0));
            }
            refuseAll(state, all);
            for (int object : there(state)) {
                accepts(state, "whole(" + object + ")", x -> x.whole(object) ? 1 : 0);
            }
        }
    }

    private static void twice_refusesIBesideTheNumbers() {
        for (State state : State.values()) {
            int count = state.known().twice.size();
            List<Refused> all = new ArrayList<>();
            for (int i : behind(count)) {
                all.add(new Refused("twice(" + i + ")", BEYOND, x -> x.twice(i)));
            }
            refuseAll(state, all);
            if (count > 0) {
                accepts(state, "the first and the last", x -> x.twice(0) + x.twice(count - 1));
            }
        }
    }

    private static void written_refusesIBesideTheBytes() {
        for (State state : State.values()) {
            int count = state.isWritten() ? state.known().writtenAnew().length() : 0;
            List<Refused> all = new ArrayList<>();
            for (int i : behind(count)) {
                all.add(new Refused("written(" + i + ")", BEYOND, x -> x.written(i)));
            }
            refuseAll(state, all);
            if (count > 0) {
                accepts(state, "the first and the last", x -> x.written(0) + x.written(count - 1));
            }
        }
    }

    private static void theStates_areWhatTheyAreMeantToBe() {
        RepairScan rich = State.SCANNED.make();
        due("objects", there(State.SCANNED), List.of(1, 2, 3, 4, 5, 6));
        due("pages", pageList(rich), "4 3");
        due("twice", twiceList(rich), "4 4");
        due("cut", rich.cut(), 8);
        due("data", dataOf(rich, 5) + "," + dataOf(rich, 6) + "," + dataOf(rich, 4), "abc,,none");
        due("mends", rich.mended(-1, 0) > 4, true);
        for (State state : State.values()) {
            RepairScan x = state.make();
            for (int object = 1; object <= 60; object++) {
                due(state + " object " + object, isThere(x, object), there(state).contains(object));
            }
            due(state + " how many", x.mended(-1, 0) + " " + x.pages() + " " + x.twice(-1), mendsOf(state) + " "
                    + state.known().pages.size() + " " + state.known().twice.size());
        }
        due("written", State.WRITTEN.make().written(-1) > 100, true);
        due("scanned twice", there(State.SCANNED_TWICE), List.of(1));
    }

    private static void allCalls_maySafelyBeRefusedInARow() {
        for (State state : State.values()) {
            RepairScan x = state.make();
            RepairScan twin = state.make();
            for (int bad : FAR) {
                outcome(() -> x.found(bad, bad));
                outcome(() -> x.found(1, bad));
                outcome(() -> x.mended(bad, bad));
                outcome(() -> x.page(bad));
                outcome(() -> x.trailer(bad));
                outcome(() -> x.stream(bad, bad));
                outcome(() -> x.stream(5, bad));
                outcome(() -> x.whole(bad) ? 1 : 0);
                outcome(() -> x.twice(bad));
                outcome(() -> x.written(bad));
            }
            goOnAlike(state + " all in a row", x, twin);
        }
    }

    // ---- what is refused

    private static List<Integer> there(State state) {
        return state.isScanned() ? new ArrayList<>(state.known().things.keySet()) : List.of();
    }

    private static int mendsOf(State state) {
        return state.isScanned() ? state.known().mends.size() : 0;
    }

    /** Null when there is no such object, or it has no stream. */
    private static String dataIn(State state, int object) {
        return there(state).contains(object) ? state.known().things.get(object).data : null;
    }

    /** Numbers that no object can have, and those that none has here, the one that was cut among them. */
    private static List<Integer> notThere(State state) {
        List<Integer> all = new ArrayList<>(List.of(-1, 0, 61, 62));
        for (int far : FAR) {
            all.add(far);
        }
        List<Integer> there = there(state);
        for (int object : new int[] {1, 2, 7, 8, 9, 59, 60}) {
            if (!there.contains(object)) {
                all.add(object);
            }
        }
        return all;
    }

    private static List<Integer> beside(int first, int last) {
        List<Integer> all = new ArrayList<>(List.of(first - 1, last + 1, last + 2));
        for (int far : FAR) {
            all.add(far);
        }
        return all;
    }

    /** Where -1 asks for how many. */
    private static List<Integer> behind(int count) {
        List<Integer> all = beside(0, count - 1);
        all.remove(Integer.valueOf(-1));
        return all;
    }

    private static void accepts(State state, String label, Asking asking) {
        RepairScan x = state.make();
        due(state + " " + label, outcome(() -> asking.answer(x)).startsWith("the answer"), true);
    }

    private static void refuseAll(State state, List<Refused> all) {
        for (Refused refused : all) {
            String label = state + " " + refused.label;
            RepairScan x = state.make();
            RepairScan twin = state.make();
            fails(label, refused.exception, () -> refused.asking.answer(x));
            fails(label + " once more", refused.exception, () -> refused.asking.answer(x));
            goOnAlike(label, x, twin);
        }
    }

    private static void goOnAlike(String label, RepairScan x, RepairScan twin) {
        due(label + ": it looks as it did", look(x), look(twin));
        due(label + ": it writes as it would", outcome(x::again) + look(x), outcome(twin::again) + look(twin));
        due(label + ": it scans as it would", outcome(x::scan) + look(x), outcome(twin::scan) + look(twin));
        put(x, RICH);
        put(twin, RICH);
        due(label + ": it goes on as it would", outcome(x::scan) + look(x), outcome(twin::scan) + look(twin));
    }
}
