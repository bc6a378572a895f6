import java.util.Arrays;
import java.util.Random;

/** Promises 19 to 25 at their edges: what is best. */
public final class BestEdgesTest {
    private static final int BAD = BarrowGrief.BAD, STATE = BarrowGrief.STATE, FULL = BarrowGrief.FULL,
        NONE = BarrowGrief.NONE;
    private static final int MIN = Edge.MIN, MAX = Edge.MAX;
    private static final String SPILT_AT_60 = ChangeHoursEdgesTest.SPILT_AT_60;
    private static final String ONE_EACH = ChangeHoursEdgesTest.ONE_EACH;
    private static final int[] NO_HOURS = {MIN, -1, 61, MAX};
    private static final int[] NOT_0_OR_1 = {MIN, -1, 2, MAX};

    public static void main(String[] args) {
        orderBounds();
        orderOfSoManyTurns();
        orderOfTooMany();
        orderBehind24();
        orderOfSeveral();
        orderOfAll();
        extraBounds();
        extraWhenFull();
        extraOfNobody();
        extraIsBehindAll();
        spareBounds();
        spareIsLess();
        spareOfSeveral();
        spareAt60();
        swapBounds();
        swapIsLess();
        swapsAtTheEnds();
        swapAt60();
        mosts();
        needs();
        kinds();
        Edge.finish(19, 25);
    }

    // ---- promise 19

    private static void orderBounds() {
        Edge.promise(19, "ALL (what 0); 10 and i: whose its i-th TURN is. BAD (also i above 4)");
        int[] numbers = {MIN, -1, 1, 2, 3, 4, 5, 8, 9, 15, 16, 20, MAX};
        Edge.bad(Edge::full, 0, numbers, "order", 0);
        Edge.bad(BarrowGrief::new, 0, numbers, "order", 0);
        Edge.asks(Edge::full, "order", 0);
        for (int i = 0; i < 5; i++) {
            Edge.asks(Edge::full, "order", 10 + i);
        }
    }

    private static void orderOfSoManyTurns() {
        Edge.promise(19, "whose its i-th TURN is (NONE: not so many)");
        BarrowGrief x = Edge.told("plain 3 9;plain 0 9;barrow 30 4;");
        Edge.due(7, x, "order", 0);
        for (int turns = 0; turns <= 5; turns++) {
            for (int i = 0; i < 5; i++) {
                Edge.due(i < turns ? 1 : NONE, x, "order", 10 + i);
            }
            Edge.call(x, "rota", 1);
        }
    }

    private static BarrowGrief turns(int n) {
        BarrowGrief x = Edge.full();
        for (int i = 4; i < n; i++) {
            Edge.call(x, "rota", i % 5);
        }
        return x;
    }

    private static void orderOfTooMany() {
        Edge.promise(19, "STATE: THE ROTA has more than 5 TURNS");
        int[] whats = {0, 10, 11, 12, 13, 14};
        for (int what : whats) {
            Edge.asks(() -> turns(5), "order", what);
            for (int n = 6; n <= 8; n++) {
                int many = n;
                Edge.still(STATE, () -> turns(many), "order", what);
            }
        }
        Edge.promise(19, "the first that fits: BAD, STATE");
        Edge.bad(() -> turns(6), 0, new int[] {MIN, -1, 1, 9, 15, MAX}, "order", 0);
        BarrowGrief x = turns(6);
        Edge.due(STATE, x, "order", 0);
        Edge.due(6, x, "cut", 5);
        Edge.due(Edge.call(turns(5), "order", 0), x, "order", 0);
    }

    /** Behind 23 HOURS the child would better be third of five, behind 25 it would be the same wherever it is. */
    private static void orderBehind24() {
        Edge.promise(19, "THE ROTA with its TURNS in another order, by which ALL is least behind 24 HOURS");
        BarrowGrief x = Edge.told("plain 0 99;child 20 99;rota 0 0 0 0 1;");
        Edge.due(14, x, "runs", 24, 0);
        Edge.due(12, x, "order", 0);
        int[] row = {0, 0, 0, 1, 0};
        for (int i = 0; i < row.length; i++) {
            Edge.due(row[i], x, "order", 10 + i);
            Edge.due(i == 4 ? 1 : 0, x, "turn", i);
        }
        Edge.promise(19, "behind 24 HOURS: from now on");
        Edge.call(x, "hours", 1);
        Edge.due(12, x, "order", 0);
        Edge.due(1, x, "order", 14);
        Edge.due(0, x, "order", 13);
    }

    private static void orderOfSeveral() {
        Edge.promise(19, "of several the first by its row (as numbers)");
        BarrowGrief x = Edge.told("plain 1 9;plain 1 9;plain 1 9;plain 1 9;plain 1 9;rota 4 3 2 1 0;");
        // 5 are put into it, of which a plain one heals down to 3, whoever has which TURN.
        Edge.due(3, x, "order", 0);
        for (int i = 0; i < 5; i++) {
            Edge.due(i, x, "order", 10 + i);
        }
        Edge.call(x, "cut", 0);
        int[] row = {3, 1, 3, 1, 1};
        for (int p : row) {
            Edge.call(x, "rota", p);
        }
        int[] first = {1, 1, 1, 3, 3};
        for (int i = 0; i < 5; i++) {
            Edge.due(first[i], x, "order", 10 + i);
        }
    }

    /** Towns by a fixed seed: each order of the rota is laid down by itself, the first by its row first. */
    private static void orderOfAll() {
        Edge.promise(19, "ALL is least behind 24 HOURS, of several the first by its row (as numbers): of all orders");
        Random random = new Random(19);
        for (int town = 0; town < 60; town++) {
            StringBuilder people = new StringBuilder();
            int many = 2 + random.nextInt(4);
            for (int p = 0; p < many; p++) {
                people.append(new String[] {"plain ", "stout ", "child ", "widow "}[random.nextInt(4)]);
                people.append(random.nextInt(100)).append(' ').append(1 + random.nextInt(20)).append(';');
            }
            people.append("barrow ").append(5 + random.nextInt(60)).append(' ').append(random.nextInt(30)).append(";rota");
            int[] rota = new int[2 + random.nextInt(4)];
            for (int i = 0; i < rota.length; i++) {
                rota[i] = town % 2 == 0 ? i % many : random.nextInt(many);
            }
            bestOfAll(people.toString(), rota);
        }
        Edge.promise(19, "of all orders: the 120th of five ONES is the only best");
        bestOfAll("stout 4 17;plain 20 6;child 25 4;widow 9 6;widow 34 29;rota", new int[] {0, 1, 2, 3, 4});
    }

    private static String row(int[] rota) {
        StringBuilder s = new StringBuilder();
        for (int p : rota) {
            s.append(' ').append(p);
        }
        return s.append(';').toString();
    }

    private static void bestOfAll(String people, int[] rota) {
        int[] sorted = rota.clone();
        Arrays.sort(sorted);
        int[] best = null;
        long least = MAX;
        int codes = (int) Math.pow(5, rota.length);
        for (int code = 0; code < codes; code++) {
            int[] other = new int[rota.length];
            int rest = code;
            for (int i = rota.length - 1; i >= 0; i--) {
                other[i] = rest % 5;
                rest /= 5;
            }
            int[] same = other.clone();
            Arrays.sort(same);
            if (Arrays.equals(same, sorted)) {
                long all = Edge.call(Edge.told(people + row(other)), "runs", 24, 0);
                best = all < least ? other : best;
                least = Math.min(all, least);
            }
        }
        // Another order of more TURNS is asked ahead, of which nothing may be left.
        BarrowGrief x = Edge.told(people + " 1 1 1 1 1;");
        Edge.call(x, "order", 0);
        Edge.call(x, "cut", 0);
        for (int p : rota) {
            Edge.call(x, "rota", p);
        }
        Edge.due(least, x, "order", 0);
        for (int i = 0; i < 5; i++) {
            Edge.due(i < rota.length ? best[i] : NONE, x, "order", 10 + i);
        }
    }

    // ---- promise 20

    private static void extraBounds() {
        Edge.promise(20, "so that ALL is least behind n HOURS (0 to 60), of several the first (what 0), ALL (1). BAD");
        BarrowGrief x = Edge.told("child 99 99;barrow 2 0;");
        Edge.due(0, x, "extra", 60, 0);
        Edge.due(39, x, "extra", 60, 1);
        Edge.due(40, x, "extra", 59, 1);
        Edge.due(99, x, "extra", 0, 1);
        for (int what = 0; what < 2; what++) {
            Edge.bad(Edge::full, 0, NO_HOURS, "extra", 0, what);
            Edge.asks(Edge::full, "extra", 0, what);
            Edge.asks(Edge::full, "extra", 60, what);
        }
        Edge.bad(Edge::full, 1, NOT_0_OR_1, "extra", 0, 0);
        Edge.promise(20, "of several the first");
        BarrowGrief y = Edge.told("plain 9 9;child 9 9;child 9 9;barrow 2 0;");
        Edge.due(0, y, "extra", 0, 0);
        Edge.due(1, y, "extra", 1, 0);
        Edge.due(26, y, "extra", 1, 1);
    }

    private static void extraWhenFull() {
        Edge.promise(20, "one TURN more (8 in all at most). FULL: there are 8 TURNS");
        for (int what = 0; what < 2; what++) {
            Edge.asks(() -> turns(7), "extra", 60, what);
            Edge.still(FULL, () -> turns(8), "extra", 0, what);
            Edge.still(FULL, () -> turns(8), "extra", 60, what);
        }
        Edge.promise(20, "the first that fits: BAD, FULL");
        Edge.bad(() -> turns(8), 0, NO_HOURS, "extra", 0, 0);
        Edge.bad(() -> turns(8), 1, NOT_0_OR_1, "extra", 0, 0);
    }

    private static void extraOfNobody() {
        Edge.promise(20, "NONE: there is nobody");
        for (int what = 0; what < 2; what++) {
            Edge.still(NONE, BarrowGrief::new, "extra", 0, what);
            Edge.still(NONE, BarrowGrief::new, "extra", 60, what);
        }
        Edge.promise(20, "the first that fits: BAD, NONE");
        Edge.bad(BarrowGrief::new, 0, NO_HOURS, "extra", 0, 0);
        Edge.bad(BarrowGrief::new, 1, NOT_0_OR_1, "extra", 0, 0);
    }

    /** A plain one heals nothing of 3, a stout one neither; HOUR 7 is that of the 8th TURN. */
    private static void extraIsBehindAll() {
        Edge.promise(20, "The ONE who is to have one TURN more, behind all others");
        BarrowGrief x = Edge.told("plain 0 99;stout 0 99;child 9 99;barrow 30 3;rota 0 0 0 0 0 0 0;");
        Edge.due(0, x, "extra", 7, 0);
        Edge.due(12, x, "extra", 7, 1);
        Edge.due(2, x, "extra", 8, 0);
        Edge.due(10, x, "extra", 8, 1);
        Edge.call(x, "hours", 7);
        Edge.due(2, x, "extra", 1, 0);
        Edge.due(10, x, "extra", 1, 1);
        Edge.due(8, x, "rota", 2);
        Edge.due(10, x, "runs", 1, 0);
        Edge.due(FULL, x, "extra", 1, 0);
    }

    // ---- promise 21

    private static void spareBounds() {
        Edge.promise(21, "The TURN that is to be left out, least is SPILT in n HOURS (0 to 60) (what 0), how much (1). BAD");
        for (int what = 0; what < 2; what++) {
            Edge.bad(Edge::full, 0, NO_HOURS, "spare", 0, what);
            Edge.asks(Edge::full, "spare", 60, what);
            Edge.still(NONE, Edge::full, "spare", 0, what);
        }
        Edge.bad(Edge::full, 1, NOT_0_OR_1, "spare", 0, 0);
        Edge.promise(21, "the first that fits: BAD, NONE");
        Edge.bad(BarrowGrief::new, 0, NO_HOURS, "spare", 0, 0);
        Edge.bad(BarrowGrief::new, 1, NOT_0_OR_1, "spare", 0, 0);
    }

    private static void spares(BarrowGrief x, int n, int which, int much) {
        Edge.due(which, x, "spare", n, 0);
        Edge.due(much, x, "spare", n, 1);
    }

    private static void spareIsLess() {
        Edge.promise(21, "less than as it is; NONE: none");
        spares(new BarrowGrief(), 60, NONE, NONE);
        BarrowGrief x = Edge.told("stout 20 1;stout 20 1;stout 20 2;");
        spares(x, 60, NONE, NONE);
        Edge.call(x, "rota", 0);
        // With no TURN left nothing is done.
        spares(x, 1, 0, 0);
        spares(x, 60, 0, 0);
        spares(x, 0, NONE, NONE);
        Edge.call(x, "rota", 1);
        // 6 are SPILT in either case.
        spares(x, 1, NONE, NONE);
        Edge.call(x, "cut", 1);
        Edge.call(x, "rota", 2);
        spares(x, 1, 0, 5);
        Edge.call(x, "cut", 0);
        Edge.call(x, "rota", 2);
        Edge.call(x, "rota", 0);
        // Left out, the second would have it, who BEARS less.
        spares(x, 1, NONE, NONE);
    }

    private static void spareOfSeveral() {
        Edge.promise(21, "of several the first (what 0)");
        // 6, then 7 are SPILT by the stout one; once alone, if he has one TURN less.
        BarrowGrief x = Edge.told("stout 20 1;plain 0 9;rota 0 0 1;");
        Edge.due(13, x, "runs", 2, 2);
        spares(x, 2, 0, 6);
        Edge.promise(21, "The TURN that is to be left out: the last of 8");
        BarrowGrief y = Edge.told("stout 20 1;plain 0 9;rota 1 1 1 1 1 1 1 0;");
        Edge.due(6, y, "runs", 8, 2);
        spares(y, 8, 7, 0);
        spares(y, 7, NONE, NONE);
    }

    /** The rota but one TURN is laid down by itself, for each TURN. */
    private static void spareAt60() {
        Edge.promise(21, "so that least is SPILT in n HOURS (0 to 60)");
        BarrowGrief x = Edge.told(SPILT_AT_60);
        spares(x, 59, NONE, NONE);
        int which = NONE;
        long least = 1;
        for (int i = 0; i < 8; i++) {
            BarrowGrief y = Edge.told(SPILT_AT_60);
            Edge.call(y, "cut", 0);
            for (int j = 0; j < 8; j++) {
                if (j != i) {
                    Edge.call(y, "rota", j == 3 ? 1 : 0);
                }
            }
            long spilt = Edge.call(y, "runs", 60, 2);
            which = spilt < least ? i : which;
            least = Math.min(spilt, least);
        }
        spares(x, 60, which, (int) least);
        Edge.due(0, x, "spare", 60, 1);
    }

    // ---- promise 22

    private static void swapBounds() {
        Edge.promise(22, "Two TURNS that are to change, ALL is least behind n HOURS (0 to 60) (what 0), ALL (1). BAD");
        for (int what = 0; what < 2; what++) {
            Edge.bad(Edge::full, 0, NO_HOURS, "swap", 0, what);
            Edge.asks(Edge::full, "swap", 60, what);
            Edge.still(NONE, Edge::full, "swap", 0, what);
        }
        Edge.bad(Edge::full, 1, NOT_0_OR_1, "swap", 0, 0);
        Edge.promise(22, "the first that fits: BAD, NONE");
        Edge.bad(BarrowGrief::new, 0, NO_HOURS, "swap", 0, 0);
        Edge.bad(BarrowGrief::new, 1, NOT_0_OR_1, "swap", 0, 0);
    }

    private static void swaps(BarrowGrief x, int n, int which, int all) {
        Edge.due(which, x, "swap", n, 0);
        Edge.due(all, x, "swap", n, 1);
    }

    private static void swapIsLess() {
        Edge.promise(22, "less than as it is; NONE: by none");
        swaps(new BarrowGrief(), 60, NONE, NONE);
        // Of 3 the plain one heals nothing, the child 2 of 5.
        BarrowGrief x = Edge.told("plain 0 99;child 9 99;barrow 30 3;");
        swaps(x, 60, NONE, NONE);
        Edge.call(x, "rota", 0);
        swaps(x, 60, NONE, NONE);
        Edge.call(x, "rota", 0);
        swaps(x, 60, NONE, NONE);
        Edge.call(x, "cut", 1);
        Edge.call(x, "rota", 1);
        swaps(x, 0, NONE, NONE);
        swaps(x, 1, 1, 10);
        // Behind two HOURS each has had one, and it is the same.
        swaps(x, 2, NONE, NONE);
        Edge.call(x, "cut", 0);
        Edge.call(x, "rota", 1);
        Edge.call(x, "rota", 0);
        swaps(x, 1, NONE, NONE);
    }

    private static void swapsAtTheEnds() {
        Edge.promise(22, "10 times the lesser and the greater, of several the least");
        BarrowGrief x = Edge.told("plain 0 99;child 9 99;barrow 30 3;rota 0 0 0 0 0 0 1 1;");
        swaps(x, 1, 6, 10);
        BarrowGrief y = Edge.told("plain 0 99;child 9 99;barrow 30 3;rota 0 0 0 0 0 0 0 1;");
        swaps(y, 1, 7, 10);
        Edge.call(y, "hours", 6);
        swaps(y, 1, 67, 10);
        Edge.promise(22, "10 times the lesser and the greater: of the last TURN and the first");
        BarrowGrief z = Edge.told("plain 0 99;child 9 99;barrow 30 3;rota 1 0 0 0 0 0 0 0;");
        Edge.call(z, "hours", 1);
        Edge.call(z, "alter", 1, 1, 9);
        Edge.call(z, "load", 3);
        Edge.call(z, "hours", 6);
        // HOUR 7 is that of TURN 7.
        swaps(z, 1, 7, 10);
    }

    /** The rota with two TURNS changed is laid down by itself, for each two. */
    private static void swapAt60() {
        Edge.promise(22, "so that ALL is least behind n HOURS (0 to 60)");
        String people = "child 60 99;widow 50 5;plain 40 9;stout 70 30;barrow 20 0;rota ";
        int[] rota = {0, 3, 1, 2, 3, 0, 2, 1};
        int[] hours = {1, 2, 24, 59, 60};
        for (int n : hours) {
            BarrowGrief x = Edge.told(people + "0 3 1 2 3 0 2 1;");
            long least = Edge.call(x, "runs", n, 0);
            int which = NONE;
            for (int i = 0; i < 8; i++) {
                for (int j = i + 1; j < 8; j++) {
                    BarrowGrief y = Edge.told(people + ";");
                    for (int t = 0; t < 8; t++) {
                        Edge.call(y, "rota", rota[t == i ? j : t == j ? i : t]);
                    }
                    long all = Edge.call(y, "runs", n, 0);
                    which = all < least ? 10 * i + j : which;
                    least = Math.min(all, least);
                }
            }
            swaps(x, n, which, which == NONE ? NONE : (int) least);
        }
    }

    // ---- promises 23 to 25

    private static void mosts() {
        Edge.promise(23, "The most that THE BARROW may TAKE (1 to 99) so that none is SPILT in n HOURS (0 to 60). BAD");
        Edge.bad(Edge::full, 0, NO_HOURS, "most", 0);
        Edge.bad(BarrowGrief::new, 0, NO_HOURS, "most", 0);
        Edge.asks(Edge::full, "most", 0);
        Edge.asks(Edge::full, "most", 60);
        BarrowGrief x = Edge.told("plain 9 1;rota 0;");
        Edge.due(99, x, "most", 0);
        Edge.due(1, x, "most", 1);
        Edge.due(30, x, "rule", 3);
        Edge.call(x, "alter", 0, 2, 2);
        Edge.due(2, x, "most", 1);
        Edge.call(x, "alter", 0, 2, 3);
        // 4 are put and 1 is healed: 3, whatever it TAKES; then of 4 that are in 3 are left, of 5 that would be 4.
        Edge.due(99, x, "most", 1);
        Edge.due(4, x, "most", 2);
        Edge.due(99, new BarrowGrief(), "most", 60);
        Edge.due(99, Edge.told("plain 99 1;"), "most", 60);
        Edge.promise(23, "NONE: by none");
        Edge.call(x, "load", 5);
        Edge.due(NONE, x, "most", 1);
        Edge.due(99, x, "most", 0);
        // 1 is healed of 4: 3, which he BEARS.
        Edge.call(x, "load", 4);
        Edge.due(4, x, "most", 1);
        byTaking(SPILT_AT_60, 59);
        byTaking(SPILT_AT_60, 60);
    }

    private static void byTaking(String text, int n) {
        Edge.promise(23, "The most that THE BARROW may TAKE so that none is SPILT in n HOURS");
        BarrowGrief x = Edge.told(text);
        int most = NONE;
        for (int v = 1; v <= 99; v++) {
            Edge.call(x, "takes", v);
            most = Edge.call(x, "runs", n, 2) == 0 ? v : most;
        }
        Edge.due(most, x, "most", n);
    }

    private static void needs() {
        Edge.promise(24, "The least that a ONE must BEAR (1 to 99) so that none is SPILT in n HOURS (0 to 60). BAD");
        for (int p = 0; p < 5; p++) {
            Edge.bad(Edge::full, 1, NO_HOURS, "need", p, 0);
            Edge.asks(Edge::full, "need", p, 0);
            Edge.asks(Edge::full, "need", p, 60);
        }
        Edge.bad(Edge::full, 0, new int[] {MIN, -1, 5, MAX}, "need", 0, 0);
        Edge.bad(BarrowGrief::new, 0, new int[] {-1, 0}, "need", 0, 0);
        BarrowGrief x = Edge.told(SPILT_AT_60);
        Edge.due(1, x, "need", 1, 0);
        Edge.due(1, x, "need", 1, 3);
        Edge.due(5, x, "need", 1, 4);
        Edge.due(5, x, "need", 1, 59);
        Edge.due(6, x, "need", 1, 60);
        Edge.due(5, x, "one", 1, 2);
        BarrowGrief y = Edge.told("stout 0 1;plain 0 1;barrow 1 99;rota 0;");
        Edge.due(87, y, "need", 0, 1);
        Edge.due(1, Edge.told("child 1 9;rota 0;"), "need", 0, 60);
        Edge.promise(24, "NONE: by none");
        // It is another who spills it.
        Edge.due(1, y, "need", 1, 0);
        Edge.due(NONE, y, "need", 1, 1);
        Edge.due(NONE, x, "need", 0, 60);
    }

    private static void kinds() {
        Edge.promise(25, "The KIND of a ONE by which ALL is least behind n HOURS (0 to 60) (what 0), ALL (1). BAD");
        for (int p = 0; p < 5; p++) {
            for (int what = 0; what < 2; what++) {
                Edge.bad(Edge::full, 1, NO_HOURS, "kind", p, 0, what);
                Edge.asks(Edge::full, "kind", p, 60, what);
            }
            Edge.bad(Edge::full, 2, NOT_0_OR_1, "kind", p, 0, 0);
        }
        Edge.bad(Edge::full, 0, new int[] {MIN, -1, 5, MAX}, "kind", 0, 0, 0);
        Edge.bad(BarrowGrief::new, 0, new int[] {-1, 0}, "kind", 0, 0, 0);
        Edge.promise(25, "of several the first (what 0)");
        BarrowGrief x = Edge.told("widow 9 9;child 0 9;rota 0;");
        Edge.due(0, x, "kind", 0, 0, 0);
        Edge.due(9, x, "kind", 0, 0, 1);
        Edge.due(0, x, "kind", 1, 60, 0);
        Edge.due(3, x, "one", 0, 0);
        // Nothing is healed of 1 by a plain one or a stout one, 1 by a child and a widow.
        BarrowGrief y = Edge.told("stout 0 9;barrow 30 1;rota 0;");
        Edge.due(2, y, "kind", 0, 1, 0);
        Edge.due(0, y, "kind", 0, 1, 1);
        Edge.promise(25, "by which ALL is least behind n HOURS (0 to 60)");
        int[] hours = {0, 1, 2, 59, 60};
        for (int n : hours) {
            byBeing(SPILT_AT_60, 0, n);
            byBeing(SPILT_AT_60, 1, n);
            byBeing(ONE_EACH, 0, n);
        }
    }

    private static void byBeing(String text, int p, int n) {
        BarrowGrief x = Edge.told(text);
        int best = NONE;
        long least = MAX;
        for (int k = 0; k < 4; k++) {
            Edge.call(x, "alter", p, 0, k);
            long all = Edge.call(x, "runs", n, 0);
            best = all < least ? k : best;
            least = Math.min(all, least);
        }
        Edge.due(best, x, "kind", p, n, 0);
        Edge.due(least, x, "kind", p, n, 1);
    }
}
