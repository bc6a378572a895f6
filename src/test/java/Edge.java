import java.lang.reflect.InvocationTargetException;
import java.util.ArrayList;
import java.util.IdentityHashMap;
import java.util.List;
import java.util.Map;
import java.util.function.Supplier;

/**
 * What the tests of the document's edges share: each answer is asked in the name of a promise and of the words that it
 * holds to. A call that must change nothing is made on one of two objects that were made alike; then all that can be
 * brought out of the two must be the same.
 */
final class Edge {
    static final int MIN = Integer.MIN_VALUE, MAX = Integer.MAX_VALUE;

    /** What later calls answer is free, so no test may lean on it. */
    static final int CALLS = 512;

    private static final int PROMISES = 40;
    private static final int[] ASKED = new int[PROMISES + 1];
    private static final Map<BarrowGrief, Integer> USED = new IdentityHashMap<>();
    private static int promise;
    private static String sentence;
    private static int wrong;

    private Edge() {
    }

    /** What is asked from here on is asked by these words of this promise. */
    static void promise(int number, String words) {
        promise = number;
        sentence = words;
    }

    static void finish(int first, int last) {
        int asked = 0;
        for (int i = first; i <= last; i++) {
            asked += ASKED[i];
            if (ASKED[i] == 0) {
                complain("no answer was asked by promise " + i);
            }
        }
        System.out.println(wrong == 0 ? asked + " answers are as due" : wrong + " of " + asked + " are not as due");
        if (wrong != 0) {
            System.exit(1);
        }
    }

    private static void complain(String what) {
        wrong++;
        System.out.println("promise " + promise + " (" + sentence + "): " + what);
    }

    private static String written(String name, int... a) {
        StringBuilder s = new StringBuilder(name).append('(');
        for (int i = 0; i < a.length; i++) {
            s.append(i == 0 ? "" : ", ").append(a[i]);
        }
        return s.append(')').toString();
    }

    static long call(BarrowGrief x, String name, int... a) {
        if (USED.merge(x, 1, Integer::sum) > CALLS) {
            complain("the test makes more than " + CALLS + " calls on one object");
        }
        Class<?>[] types = new Class<?>[a.length];
        Object[] values = new Object[a.length];
        for (int i = 0; i < a.length; i++) {
            types[i] = int.class;
            values[i] = a[i];
        }
        try {
            return ((Number) BarrowGrief.class.getMethod(name, types).invoke(x, values)).longValue();
        } catch (InvocationTargetException e) {
            complain(written(name, a) + " threw " + e.getCause());
            return Long.MIN_VALUE;
        } catch (ReflectiveOperationException e) {
            throw new IllegalStateException(e);
        }
    }

    /** The answer that is due of a call. */
    static void due(long want, BarrowGrief x, String name, int... a) {
        ASKED[promise]++;
        long got = call(x, name, a);
        if (got != want) {
            complain(written(name, a) + " answered " + got + ", due is " + want);
        }
    }

    /** The answer that is due of a call that changes nothing. */
    static void still(long want, Supplier<BarrowGrief> made, String name, int... a) {
        BarrowGrief x = made.get();
        due(want, x, name, a);
        same("behind " + written(name, a), everything(x), everything(made.get()));
    }

    /** A call that changes nothing, whatever it answers. */
    static void asks(Supplier<BarrowGrief> made, String name, int... a) {
        still(call(made.get(), name, a), made, name, a);
    }

    /** BAD for each of some numbers in one place of the call, nothing being changed by any of them. */
    static void bad(Supplier<BarrowGrief> made, int place, int[] numbers, String name, int... a) {
        for (int v : numbers) {
            int[] b = a.clone();
            b[place] = v;
            still(BarrowGrief.BAD, made, name, b);
        }
    }

    static void same(String when, List<String> got, List<String> want) {
        ASKED[promise]++;
        for (int i = 0; i < Math.max(got.size(), want.size()); i++) {
            String g = i < got.size() ? got.get(i) : "nothing";
            String w = i < want.size() ? want.get(i) : "nothing";
            if (!g.equals(w)) {
                complain(when + ": " + g + ", due is " + w);
                return;
            }
        }
    }

    // ---- objects

    static void feed(BarrowGrief x, String text) {
        for (int i = 0; i < text.length(); i++) {
            call(x, "feed", text.charAt(i));
        }
    }

    static BarrowGrief told(String text) {
        BarrowGrief x = new BarrowGrief();
        tell(x, text);
        return x;
    }

    static void tell(BarrowGrief x, String text) {
        feed(x, text);
        if (call(x, "text") < 0) {
            complain("\"" + text + "\" was not taken");
        }
    }

    static void layAll(BarrowGrief x, int k, int... cells) {
        for (int i = 0; i < cells.length; i++) {
            call(x, "lay", k, i, cells[i]);
        }
    }

    /**
     * One of whom all there is is something: five people, hours, things seen, two images that differ, three sheets, a
     * fault, a torn read, bytes on the tape.
     */
    static BarrowGrief full() {
        BarrowGrief x = told("plain 9 5;stout 20 3;child 7 9;widow 12 4;plain 1 1;barrow 12 1;rota 0 2 1 3;");
        call(x, "keep", 1);
        call(x, "hours", 3);
        call(x, "sheet", 0, 0, 6);
        layAll(x, 0, 0, 10, 1, 21, 4, 2);
        call(x, "sheet", 1, 1, 4);
        layAll(x, 1, 2, 8, 3, 13);
        call(x, "sheet", 2, 2, 5);
        layAll(x, 2, 4, 6, 0, 5, 9);
        call(x, "read", 0, 0, 0, 4);
        seeTrue(x, 0, 0);
        seeTrue(x, 2, 1);
        call(x, "keep", 0);
        call(x, "hours", 2);
        call(x, "forget", 0);
        seeTrue(x, 0, 2);
        seeTrue(x, 3, 3);
        feed(x, "x");
        call(x, "text");
        feed(x, "stout 6 7;rota 0;");
        return x;
    }

    /** Sees what will be so. */
    static void seeTrue(BarrowGrief x, int n, int p) {
        call(x, "see", n, p, (int) call(x, "ahead", p, n));
    }

    // ---- all that can be brought out of an object, which is used up by it

    static List<String> everything(BarrowGrief x) {
        List<String> rows = new ArrayList<>();
        lookThrough(x, rows);
        for (int k = 0; k < 2; k++) {
            if (row(x, rows, "back", k) >= 0) {
                lookThrough(x, rows);
            }
        }
        for (int k = 0; k < 4; k++) {
            for (int lane = 0; lane < 3; lane++) {
                row(x, rows, "read", k, lane, 0, 20);
                row(x, rows, "torn");
            }
            for (int p = 0; p < call(x, "rule", 0); p++) {
                row(x, rows, "one", p, 1);
            }
        }
        row(x, rows, "text");
        lookThrough(x, rows);
        return rows;
    }

    /** The rows but those of one call. */
    static List<String> but(String call, List<String> rows) {
        List<String> rest = new ArrayList<>(rows);
        rest.removeIf(row -> row.startsWith(call));
        return rest;
    }

    private static long row(BarrowGrief x, List<String> rows, String name, int... a) {
        long answer = call(x, name, a);
        rows.add(written(name, a) + " is " + answer);
        return answer;
    }

    /** All but what is in images and sheets and on the tape; what was seen is forgotten by it, the last first. */
    private static void lookThrough(BarrowGrief x, List<String> rows) {
        look(x, rows);
        int people = (int) call(x, "rule", 0);
        for (int n = (int) call(x, "count", 0); n >= 0; n--) {
            for (int p = 0; p < people; p++) {
                row(x, rows, "kinds", p);
                row(x, rows, "griefs", p);
            }
            if (n > 0) {
                row(x, rows, "forget", n - 1);
            }
        }
    }

    static List<String> look(BarrowGrief x) {
        List<String> rows = new ArrayList<>();
        look(x, rows);
        return rows;
    }

    private static void look(BarrowGrief x, List<String> rows) {
        long people = 0;
        long turns = 0;
        for (int what = 0; what < 7; what++) {
            long v = row(x, rows, "rule", what);
            people = what == 0 ? v : people;
            turns = what == 5 ? v : turns;
        }
        for (int p = 0; p < people; p++) {
            for (int what = 0; what < 6; what++) {
                row(x, rows, "one", p, what);
            }
        }
        for (int i = 0; i < turns; i++) {
            row(x, rows, "turn", i);
        }
        for (int what = 0; what < 6; what++) {
            row(x, rows, "count", what);
        }
        row(x, rows, "fault");
        row(x, rows, "torn");
    }
}
