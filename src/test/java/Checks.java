import java.lang.reflect.InvocationTargetException;
import java.lang.reflect.Method;
import java.lang.reflect.Modifier;
import java.nio.charset.StandardCharsets;
import java.util.NoSuchElementException;
import java.util.TreeMap;

/**
 * What the tests are made of: files put in, answers looked at. A class of tests extends this; each of its methods that
 * takes and answers nothing is a test, and bears the name of the promise or the term and of the case.
 */
abstract class Checks {
    interface Call {
        long answer();
    }

    private static int wrong = 0;
    private static int right = 0;
    private static String test = "";

    // ---- running

    static void runTests(Class<?> tests) {
        TreeMap<String, Method> byName = new TreeMap<>();
        for (Method method : tests.getDeclaredMethods()) {
            boolean isTest = Modifier.isStatic(method.getModifiers()) && !method.isSynthetic()
                    && method.getParameterCount() == 0 && method.getReturnType() == void.class;
            if (isTest) {
                byName.put(method.getName(), method);
            }
        }
        byName.values().forEach(Checks::runTest);
        System.out.println(tests.getName() + ": " + byName.size() + " tests, " + right + " answers as due, " + wrong
                + " not");
        if (wrong != 0 || right == 0) {
            System.exit(1);
        }
    }

    /** Of one test alone, so that a broken class can be tried against it. */
    static int wrongIn(Class<?> tests, String name) throws NoSuchMethodException {
        int before = wrong;
        runTest(tests.getDeclaredMethod(name));
        return wrong - before;
    }

    private static void runTest(Method method) {
        test = method.getName();
        int before = right + wrong;
        try {
            method.setAccessible(true);
            method.invoke(null);
        } catch (InvocationTargetException e) {
            due("threw", e.getCause(), "nothing");
        } catch (IllegalAccessException e) {
            due("could not be run", e, "nothing");
        }
        if (right + wrong == before) {
            due("looked at", "nothing", "something");
        }
    }

    static void due(String label, Object got, Object want) {
        if (String.valueOf(got).equals(String.valueOf(want))) {
            right++;
        } else {
            wrong++;
            System.out.println(test + ": " + label + ": answered " + shown(got) + ", due is " + shown(want));
        }
    }

    private static String shown(Object answer) {
        return String.valueOf(answer).replace("\n", "\\n");
    }

    /** The very class: what the machine throws by itself is often a class below the one that is due. */
    static void fails(String label, Class<?> exception, Call call) {
        due(label, outcome(call), exception.getName());
    }

    static String outcome(Call call) {
        try {
            return "the answer " + call.answer();
        } catch (RuntimeException e) {
            return e.getClass().getName();
        }
    }

    // ---- files

    static void put(RepairScan x, String text) {
        for (byte b : text.getBytes(StandardCharsets.ISO_8859_1)) {
            x.add(b);
        }
    }

    static RepairScan scanned(String text) {
        RepairScan x = new RepairScan();
        put(x, text);
        x.scan();
        return x;
    }

    static int count(String text) {
        RepairScan x = new RepairScan();
        put(x, text);
        return x.scan();
    }

    /** A file may have marks ~ in it: they are no bytes of it, and name the places a, b, c .. */
    static String unmarked(String marked) {
        return marked.replace("~", "");
    }

    static int place(String marked, char mark) {
        int at = -1;
        for (int i = 'a'; i <= mark; i++) {
            at = marked.indexOf('~', at + 1);
        }
        return at - (mark - 'a');
    }

    /** The mends of a file with marks; a place is told by its mark. */
    static void told(String label, String marked, String want) {
        StringBuilder places = new StringBuilder();
        for (String mend : want.isEmpty() ? new String[0] : want.split(" ")) {
            String at = mend.substring(mend.indexOf('@') + 1);
            String told = Character.isLetter(at.charAt(0)) ? "" + place(marked, at.charAt(0)) : at;
            places.append(places.length() == 0 ? "" : " ").append(mend, 0, mend.indexOf('@') + 1).append(told);
        }
        due(label, mends(scanned(unmarked(marked))), places);
    }

    // ---- answers

    static long kind(String inside) {
        return scanned("%P\n1 0 obj<<" + inside + ">>endobj").found(1, 3);
    }

    static long refs(String text) {
        return scanned("%P\n1 0 obj " + text + " endobj").found(1, 4);
    }

    static String tail(String text) {
        RepairScan x = scanned("%P\n" + text);
        return x.trailer(0) + " " + x.trailer(1);
    }

    static String data(String object) {
        return dataOf(scanned("%P\n1 0 obj " + object + " endobj"), 1);
    }

    static String dataOf(RepairScan x, int object) {
        StringBuilder out = new StringBuilder();
        try {
            if (x.stream(object, -1) < 0) {
                return "fewer than none";
            }
            for (int i = 0; i < x.stream(object, -1); i++) {
                out.append((char) x.stream(object, i));
            }
        } catch (NoSuchElementException e) {
            return "none";
        }
        return out.toString();
    }

    static boolean isThere(RepairScan x, int object) {
        return outcome(() -> x.found(object, 0)).startsWith("the answer");
    }

    static String mends(RepairScan x) {
        StringBuilder out = new StringBuilder();
        for (int i = 0; i < x.mended(-1, 0); i++) {
            out.append(i == 0 ? "" : " ").append(x.mended(i, 0)).append('@').append(x.mended(i, 1));
        }
        return out.toString();
    }

    static String pageList(RepairScan x) {
        StringBuilder out = new StringBuilder();
        for (int i = 0; i < x.pages(); i++) {
            out.append(i == 0 ? "" : " ").append(x.page(i));
        }
        return out.toString();
    }

    static String twiceList(RepairScan x) {
        StringBuilder out = new StringBuilder();
        for (int i = 0; i < x.twice(-1); i++) {
            out.append(i == 0 ? "" : " ").append(x.twice(i));
        }
        return out.toString();
    }

    static String anew(RepairScan x) {
        StringBuilder out = new StringBuilder();
        for (int i = 0; i < x.written(-1); i++) {
            out.append((char) x.written(i));
        }
        return out.toString();
    }

    static String anew(String text) {
        RepairScan x = scanned(text);
        x.again();
        return anew(x);
    }

    /** Everything that an object can be asked without being changed. */
    static String look(RepairScan x) {
        StringBuilder out = new StringBuilder(mends(x)).append('|').append(pageList(x)).append('|').append(twiceList(x));
        out.append('|').append(x.cut()).append(' ').append(x.catalogue()).append(' ').append(x.trailer(0)).append(' ')
                .append(x.trailer(1)).append('|').append(anew(x));
        for (int number = 1; number <= 60; number++) {
            if (!isThere(x, number)) {
                continue;
            }
            out.append('|').append(number).append(x.whole(number) ? " whole" : " broken");
            for (int what = 0; what < 5; what++) {
                out.append(' ').append(x.found(number, what));
            }
            out.append(' ').append(dataOf(x, number));
        }
        return out.toString();
    }
}
