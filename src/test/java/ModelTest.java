import java.lang.reflect.InvocationTargetException;
import java.lang.reflect.Method;
import java.util.ArrayList;
import java.util.Comparator;
import java.util.List;
import java.util.Random;

/** Runs of calls by fixed seeds, on the class and on Model: every answer must be the same, and none may throw. */
public final class ModelTest {
    private static final int RUNS = 300;

    /** What an object answers behind its 512th call is free. */
    private static final int CALLS = 512;

    /** As many as come at once but for a text: a sheet of 40 cells is made, laid, read, and looked at. */
    private static final int AT_ONCE = 44;

    private static final int[] EDGES = {Integer.MIN_VALUE, Integer.MIN_VALUE + 1, -100, -2, -1, 0, 1, 2, 3, 4, 5, 6, 8, 9, 10,
        14, 15, 24, 25, 30, 31, 40, 41, 60, 61, 99, 100, 127, 128, 999, 1000, 65536, Integer.MAX_VALUE - 1, Integer.MAX_VALUE};
    private static final String[] WORDS = {"plain", "stout", "child", "widow", "barrow", "rota", "plai", "x", "A", "-"};

    private final Random random;
    private final BarrowGrief got = new BarrowGrief();
    private final Model due = new Model();
    private final List<String> calls = new ArrayList<>();
    private int used;

    private ModelTest(long seed) {
        random = new Random(seed);
    }

    public static void main(String[] args) throws ReflectiveOperationException {
        long asked = 0;
        for (int seed = 0; seed < RUNS; seed++) {
            ModelTest run = new ModelTest(seed);
            if (!run.goes()) {
                System.out.println("run of seed " + seed + ":");
                run.calls.forEach(System.out::println);
                System.exit(1);
            }
            asked += run.used;
        }
        System.out.println(asked + " answers are as the model's");
    }

    private static List<Method> face() {
        List<Method> methods = new ArrayList<>();
        for (Method m : BarrowGrief.class.getDeclaredMethods()) {
            if (java.lang.reflect.Modifier.isPublic(m.getModifiers())) {
                methods.add(m);
            }
        }
        // Reflection promises no order, and a run must be the same each time.
        methods.sort(Comparator.comparing(Method::getName));
        return methods;
    }

    private boolean goes() throws ReflectiveOperationException {
        List<Method> face = face();
        if (!tell(random.nextInt(8) == 0)) {
            return false;
        }
        while (used + AT_ONCE <= CALLS) {
            int which = random.nextInt(60);
            boolean same;
            if (which == 0) {
                same = tell(random.nextInt(3) > 0);
            } else if (which == 1) {
                same = seeWhatComes();
            } else if (which == 2) {
                same = laySheet();
            } else {
                Method m = face.get(random.nextInt(face.size()));
                // A text that comes by chance would mostly leave nobody.
                same = m.getName().equals("text") || call(m.getName(), arguments(m));
            }
            if (!same) {
                return false;
            }
        }
        return true;
    }

    private int[] arguments(Method m) {
        int[] a = new int[m.getParameterCount()];
        for (int i = 0; i < a.length; i++) {
            int way = random.nextInt(12);
            if (way == 0) {
                a[i] = random.nextInt();
            } else if (way == 1) {
                a[i] = EDGES[random.nextInt(EDGES.length)];
            } else if (way < 7) {
                a[i] = random.nextInt(5);
            } else {
                a[i] = random.nextInt(way < 9 ? 16 : way < 11 ? 62 : 130);
            }
        }
        return a;
    }

    private boolean call(String name, int... a) throws ReflectiveOperationException {
        Class<?>[] types = new Class<?>[a.length];
        Object[] values = new Object[a.length];
        StringBuilder told = new StringBuilder(name).append('(');
        for (int i = 0; i < a.length; i++) {
            types[i] = int.class;
            values[i] = a[i];
            told.append(i == 0 ? "" : ", ").append(a[i]);
        }
        used++;
        long want = ((Number) Model.class.getDeclaredMethod(name, types).invoke(due, values)).longValue();
        try {
            long answer = ((Number) BarrowGrief.class.getMethod(name, types).invoke(got, values)).longValue();
            calls.add(told.append(") = ").append(answer).toString());
            if (answer != want) {
                calls.add("due is " + want);
            }
            return answer == want;
        } catch (InvocationTargetException e) {
            calls.add(told.append(") threw ").append(e.getCause()).toString());
            return false;
        }
    }

    private boolean tell(boolean wildly) throws ReflectiveOperationException {
        String text = wildly ? wildText() : text();
        if (used + text.length() + 3 > CALLS) {
            return true;
        }
        if (!call("end", 0)) {
            return false;
        }
        for (int i = 0; i < text.length(); i++) {
            used++;
            if (got.feed(text.charAt(i)) != due.feed(text.charAt(i))) {
                return false;
            }
        }
        calls.add("feed \"" + text + "\"");
        return call("text") && call("fault");
    }

    private String text() {
        StringBuilder s = new StringBuilder();
        int people = 1 + random.nextInt(5);
        int heavy = random.nextBoolean() ? 100 : 25;
        for (int p = 0; p < people; p++) {
            s.append(WORDS[random.nextInt(4)]).append(' ').append(random.nextInt(heavy)).append(' ');
            s.append(1 + random.nextInt(random.nextBoolean() ? 9 : 99)).append(';');
        }
        if (random.nextInt(4) > 0) {
            s.append("barrow ").append(1 + random.nextInt(99)).append(' ').append(random.nextInt(heavy)).append(';');
        }
        s.append("rota");
        int turns = random.nextInt(random.nextBoolean() ? 6 : 9);
        for (int i = 0; i < turns; i++) {
            s.append(' ').append(random.nextInt(people));
        }
        return s.append(';').toString();
    }

    /** A text with something changed in it, or words as they come. */
    private String wildText() {
        StringBuilder s = new StringBuilder();
        if (random.nextBoolean()) {
            s.append(text());
            for (int i = random.nextInt(3); i >= 0; i--) {
                int at = random.nextInt(s.length());
                int way = random.nextInt(3);
                if (way == 0) {
                    s.deleteCharAt(at);
                } else if (way == 1) {
                    s.insert(at, " ;05a".charAt(random.nextInt(5)));
                } else {
                    s.insert(at, WORDS[random.nextInt(WORDS.length)]);
                }
            }
            return s.toString();
        }
        for (int i = random.nextInt(40); i > 0; i--) {
            int way = random.nextInt(8);
            if (way < 3) {
                s.append(random.nextInt(way < 2 ? 6 : 120));
            } else if (way < 5) {
                s.append(WORDS[random.nextInt(random.nextInt(4) == 0 ? 10 : 6)]);
            } else {
                s.append(way < 7 ? ';' : ' ');
            }
            s.append(random.nextBoolean() ? " " : "");
        }
        return s.toString();
    }

    /** Sees what would come of another kind, so that something is left to be told. */
    private boolean seeWhatComes() throws ReflectiveOperationException {
        used += 2;
        int people = got.rule(0);
        if (people == 0) {
            return true;
        }
        int n = random.nextInt(25);
        int p = random.nextInt(people);
        int q = random.nextInt(people);
        return call("see", n, q, got.ahead(q, n)) && call("kinds", p) && call("griefs", p) && call("ask", p, 0)
            && call("ask", p, 1);
    }

    private boolean laySheet() throws ReflectiveOperationException {
        int k = random.nextInt(4);
        int lane = random.nextInt(3);
        int n = random.nextInt(41);
        if (!call("sheet", k, lane, n)) {
            return false;
        }
        for (int i = 0; i < n; i++) {
            int v = i % 2 == 0 ? random.nextInt(4) : random.nextInt(104) - 2 + (random.nextInt(9) == 0 ? 65536 : 0);
            if (!call("lay", k, i, v)) {
                return false;
            }
        }
        return call("read", k, random.nextInt(5) == 0 ? random.nextInt(3) : lane, random.nextInt(6), random.nextInt(21))
            && call("torn") && call("count", 4);
    }
}
