import java.math.BigInteger;

/** Promises 26 to 33 at their edges: hours that are forgotten, what was seen, hours by a seed. */
public final class LuckSeenEdgesTest {
    private static final int BAD = BarrowGrief.BAD, STATE = BarrowGrief.STATE, FULL = BarrowGrief.FULL,
        NONE = BarrowGrief.NONE;
    private static final int MIN = Edge.MIN, MAX = Edge.MAX;
    private static final String ONE_EACH = ChangeHoursEdgesTest.ONE_EACH;
    private static final int[] NOBODY = {MIN, -1, 5, MAX};
    private static final int[] NOT_0_OR_1 = {MIN, -1, 2, MAX};

    public static void main(String[] args) {
        luckBounds();
        lucks();
        forgottenHours();
        meanBounds();
        means();
        seeBounds();
        seesSix();
        forgets();
        seenFromNowOn();
        kindsBounds();
        kindsBehind24();
        griefsBounds();
        griefsOf0To30();
        askBounds();
        askWhenNoneIsLeft();
        asksBehind24();
        askOfSeveral();
        driftBounds();
        driftOfNobody();
        driftsBySeed();
        driftTo99();
        driftWhateverTheRotaIs();
        Edge.finish(26, 33);
    }

    // ---- promises 26, 27

    private static void luckBounds() {
        Edge.promise(26, "n HOURS (0 to 8), by v out of ten (0 to 10), ALL is w (0 to 999) or less: 0, 1. BAD");
        for (int what = 0; what < 2; what++) {
            Edge.bad(Edge::full, 0, new int[] {MIN, -1, 11, MAX}, "luck", 0, 0, 0, what);
            Edge.bad(Edge::full, 1, new int[] {MIN, -1, 9, MAX}, "luck", 0, 0, 0, what);
            Edge.bad(Edge::full, 2, new int[] {MIN, -1, 1000, MAX}, "luck", 0, 0, 0, what);
            Edge.asks(Edge::full, "luck", 0, 0, 0, what);
            Edge.asks(Edge::full, "luck", 10, 8, 999, what);
            Edge.asks(Edge::full, "luck", 3, 8, 50, what);
        }
        Edge.bad(Edge::full, 3, NOT_0_OR_1, "luck", 0, 0, 0, 0);
        Edge.bad(BarrowGrief::new, 1, new int[] {-1, 9}, "luck", 0, 0, 0, 0);
    }

    private static void luck(BarrowGrief x, int v, int n, int w, long top, long bottom) {
        Edge.due(top, x, "luck", v, n, w, 0);
        Edge.due(bottom, x, "luck", v, n, w, 1);
    }

    private static void lucks() {
        Edge.promise(26, "that ALL is w or less: Fractions are in lowest terms, the denominator above 0 (0 is 0 by 1)");
        BarrowGrief x = Edge.told(ONE_EACH);
        // ALL is 99 less the HOURS that are not forgotten.
        for (int n = 0; n <= 8; n++) {
            luck(x, 0, n, 99 - n, 1, 1);
            luck(x, 0, n, 98 - n, 0, 1);
            luck(x, 10, n, 99, 1, 1);
            luck(x, 10, n, 98, 0, 1);
            luck(x, 5, n, 99 - n, 1, 1L << n);
            luck(x, 5, n, 98 - n, 0, 1);
            luck(x, 5, n, 999, 1, 1);
            luck(x, 5, n, 0, 0, 1);
        }
        for (int v = 0; v <= 10; v++) {
            luck(x, v, 0, 99, 1, 1);
            luck(x, v, 0, 98, 0, 1);
        }
        int[][] once = {{1, 9, 10}, {2, 4, 5}, {3, 7, 10}, {4, 3, 5}, {6, 2, 5}, {7, 3, 10}, {8, 1, 5}, {9, 1, 10}};
        for (int[] o : once) {
            luck(x, o[0], 1, 98, o[1], o[2]);
        }
        luck(x, 1, 8, 91, 43046721, 100000000);
        luck(x, 9, 8, 91, 1, 100000000);
        luck(x, 9, 8, 98, 56953279, 100000000);
        luck(x, 3, 2, 98, 91, 100);
        luck(new BarrowGrief(), 5, 8, 0, 1, 1);
    }

    private static void forgottenHours() {
        Edge.promise(26, "nothing is done in it, HOUR is 1 more");
        // The second HOUR is the child's, whether the first is forgotten or not: it heals 2 of 5.
        BarrowGrief x = Edge.told("plain 0 99;child 9 99;barrow 30 3;rota 0 1;");
        luck(x, 2, 1, 11, 0, 1);
        luck(x, 2, 2, 10, 4, 5);
        luck(x, 2, 2, 12, 1, 1);
        Edge.promise(27, "Likewise: nothing is done in it, HOUR is 1 more");
        mean(x, 2, 1, 12, 1);
        mean(x, 2, 2, 52, 5);
    }

    private static void meanBounds() {
        Edge.promise(27, "Likewise, the mean of ALL behind them: 0, 1. BAD");
        for (int what = 0; what < 2; what++) {
            Edge.bad(Edge::full, 0, new int[] {MIN, -1, 11, MAX}, "mean", 0, 0, what);
            Edge.bad(Edge::full, 1, new int[] {MIN, -1, 9, MAX}, "mean", 0, 0, what);
            Edge.asks(Edge::full, "mean", 0, 0, what);
            Edge.asks(Edge::full, "mean", 10, 8, what);
            Edge.asks(Edge::full, "mean", 3, 8, what);
        }
        Edge.bad(Edge::full, 2, NOT_0_OR_1, "mean", 0, 0, 0);
        Edge.bad(BarrowGrief::new, 1, new int[] {-1, 9}, "mean", 0, 0, 0);
    }

    private static void mean(BarrowGrief x, int v, int n, long top, long bottom) {
        Edge.due(top, x, "mean", v, n, 0);
        Edge.due(bottom, x, "mean", v, n, 1);
    }

    private static void means() {
        Edge.promise(27, "the mean of ALL: Fractions are in lowest terms, the denominator above 0 (0 is 0 by 1)");
        BarrowGrief x = Edge.told(ONE_EACH);
        for (int n = 0; n <= 8; n++) {
            mean(x, 0, n, 99 - n, 1);
            mean(x, 10, n, 99, 1);
            mean(x, 5, n, n % 2 == 0 ? 99 - n / 2 : 2 * 99 - n, n % 2 == 0 ? 1 : 2);
        }
        for (int v = 0; v <= 10; v++) {
            mean(x, v, 0, 99, 1);
        }
        mean(x, 1, 8, 459, 5);
        mean(x, 9, 8, 491, 5);
        mean(x, 9, 1, 989, 10);
        mean(new BarrowGrief(), 5, 8, 0, 1);
        mean(Edge.told("plain 0 9;rota 0;"), 3, 8, 0, 1);
        mean(Edge.told("plain 99 9;plain 99 9;plain 99 9;plain 99 9;plain 99 9;barrow 9 99;"), 7, 8, 594, 1);
    }

    // ---- promises 28, 29

    private static BarrowGrief sixSeen() {
        BarrowGrief x = Edge.full();
        for (int i = 0; i < 4; i++) {
            Edge.seeTrue(x, 6 * i, i);
        }
        return x;
    }

    private static void seeBounds() {
        Edge.promise(28, "SEEN: behind n HOURS (0 to 24) GRIEF of a ONE is g (0 to 99): how many are. BAD");
        int[][] taken = {{0, 0, 0}, {24, 4, 99}, {0, 4, 99}, {24, 0, 0}, {12, 2, 50}};
        BarrowGrief x = Edge.told("plain 9 5;plain 9 5;plain 9 5;plain 9 5;plain 9 5;");
        for (int i = 0; i < taken.length; i++) {
            Edge.due(i + 1, x, "see", taken[i][0], taken[i][1], taken[i][2]);
            Edge.due(i + 1, x, "count", 0);
        }
        Edge.bad(Edge::full, 0, new int[] {MIN, -1, 25, MAX}, "see", 0, 0, 0);
        Edge.bad(Edge::full, 1, NOBODY, "see", 0, 0, 0);
        Edge.bad(Edge::full, 2, new int[] {MIN, -1, 100, MAX}, "see", 0, 0, 0);
        Edge.bad(BarrowGrief::new, 1, new int[] {-1, 0}, "see", 0, 0, 0);
    }

    private static void seesSix() {
        Edge.promise(28, "SEEN (6). FULL");
        BarrowGrief x = Edge.told("plain 9 5;");
        for (int i = 1; i <= 6; i++) {
            Edge.due(i, x, "see", 0, 0, 9);
        }
        Edge.due(FULL, x, "see", 0, 0, 9);
        Edge.due(6, x, "count", 0);
        Edge.due(1 << 9, x, "griefs", 0);
        Edge.due(6, x, "forget", 5);
        Edge.due(6, x, "see", 0, 0, 8);
        Edge.due(0, x, "griefs", 0);
        Edge.still(FULL, LuckSeenEdgesTest::sixSeen, "see", 0, 0, 0);
        Edge.still(FULL, LuckSeenEdgesTest::sixSeen, "see", 24, 4, 99);
        Edge.promise(28, "the first that fits: BAD, FULL");
        Edge.bad(LuckSeenEdgesTest::sixSeen, 0, new int[] {-1, 25}, "see", 0, 0, 0);
        Edge.bad(LuckSeenEdgesTest::sixSeen, 1, new int[] {-1, 5}, "see", 0, 0, 0);
        Edge.bad(LuckSeenEdgesTest::sixSeen, 2, new int[] {-1, 100}, "see", 0, 0, 0);
    }

    private static void forgets() {
        Edge.promise(29, "SEEN are the first n alone: how many there were. BAD");
        BarrowGrief x = Edge.told("plain 9 5;");
        Edge.due(BAD, x, "forget", 1);
        Edge.due(0, x, "forget", 0);
        // The first two go with what he has, the others do not.
        int[] griefs = {9, 9, 8, 7, 6, 5};
        for (int g : griefs) {
            Edge.call(x, "see", 0, 0, g);
        }
        Edge.due(BAD, x, "forget", 7);
        Edge.due(6, x, "forget", 6);
        Edge.due(6, x, "forget", 3);
        Edge.due(3, x, "count", 0);
        Edge.due(0, x, "griefs", 0);
        Edge.due(BAD, x, "forget", 4);
        Edge.due(3, x, "forget", 2);
        Edge.due(1 << 9, x, "griefs", 0);
        Edge.due(2, x, "forget", 0);
        Edge.due(0, x, "forget", 0);
        Edge.due(MAX, x, "griefs", 0);
        Edge.bad(Edge::full, 0, new int[] {MIN, -1, 3, 6, MAX}, "forget", 0);
        Edge.bad(BarrowGrief::new, 0, new int[] {MIN, -1, 1, MAX}, "forget", 0);
        Edge.bad(LuckSeenEdgesTest::sixSeen, 0, new int[] {-1, 7}, "forget", 0);
        Edge.still(2, Edge::full, "forget", 2);
        Edge.still(6, LuckSeenEdgesTest::sixSeen, "forget", 6);
    }

    private static void seenFromNowOn() {
        Edge.promise(28, "behind n HOURS from now on GRIEF of a ONE is g");
        BarrowGrief x = Edge.told("plain 9 99;rota 0;");
        Edge.call(x, "see", 1, 0, 5);
        Edge.due(1 << 9, x, "griefs", 0);
        Edge.call(x, "hours", 1);
        // He has 5 now; of whom it is SEEN that he has 5 behind one HOUR, he has 9 now.
        Edge.due(1 << 9, x, "griefs", 0);
        Edge.due(0, x, "kinds", 0);
    }

    // ---- promises 30, 31

    private static void kindsBounds() {
        Edge.promise(30, "KINDS of a ONE (bits) by which, all else as it is, all is as SEEN. BAD");
        for (int p = 0; p < 5; p++) {
            Edge.asks(Edge::full, "kinds", p);
        }
        Edge.bad(Edge::full, 0, NOBODY, "kinds", 0);
        Edge.bad(BarrowGrief::new, 0, new int[] {-1, 0}, "kinds", 0);
        Edge.promise(30, "KINDS (bits): all, when nothing is SEEN; none");
        BarrowGrief x = Edge.told("plain 9 99;child 9 99;barrow 99 0;rota 0 1;");
        Edge.due(15, x, "kinds", 0);
        Edge.due(15, x, "kinds", 1);
        // He has 5, 1, 7, 4 behind an HOUR, by KIND.
        int[] griefs = {5, 1, 7, 4, 6};
        int[] bits = {1, 2, 4, 8, 0};
        for (int i = 0; i < griefs.length; i++) {
            Edge.call(x, "see", 1, 0, griefs[i]);
            Edge.due(bits[i], x, "kinds", 0);
            // Of what KIND the other is makes nothing of it.
            Edge.due(i == 0 ? 15 : 0, x, "kinds", 1);
            Edge.call(x, "forget", 0);
        }
        Edge.due(0, x, "one", 0, 0);
        Edge.promise(30, "all is as SEEN: each of it");
        Edge.call(x, "see", 0, 0, 9);
        Edge.due(15, x, "kinds", 0);
        Edge.call(x, "see", 1, 0, 1);
        Edge.due(2, x, "kinds", 0);
        Edge.call(x, "see", 1, 1, 9);
        Edge.due(2, x, "kinds", 0);
        Edge.call(x, "see", 0, 1, 8);
        Edge.due(0, x, "kinds", 0);
    }

    /**
     * Two are in, THE BARROW TAKES 1, and stout ones who have nothing do nothing of less than 8: a child or a widow heals
     * 1 in each of two TURNS, and puts 1 in the third; a plain one or a stout one does nothing at all.
     */
    private static BarrowGrief shownBehind(int hours, int who) {
        int turn = (hours - 1) % 8;
        StringBuilder text = new StringBuilder();
        for (int p = 0; p <= who; p++) {
            text.append(p == who ? "plain 5 99;" : "stout 0 99;");
        }
        if (who == 0) {
            text.append("stout 0 99;");
        }
        text.append("barrow 1 ").append((hours - 1) / 8).append(";rota");
        for (int i = 0; i < 8; i++) {
            text.append(' ').append(i == turn ? who : who == 0 ? 1 : 0);
        }
        return Edge.told(text + ";");
    }

    private static void kindsBehind24() {
        Edge.promise(30, "all is as SEEN: behind 24 HOURS too");
        BarrowGrief x = shownBehind(24, 0);
        Edge.call(x, "see", 23, 0, 5);
        Edge.due(15, x, "kinds", 0);
        Edge.call(x, "see", 24, 0, 4);
        Edge.due(12, x, "kinds", 0);
        Edge.call(x, "forget", 0);
        Edge.call(x, "see", 24, 0, 5);
        Edge.due(3, x, "kinds", 0);
        BarrowGrief y = shownBehind(25, 0);
        Edge.call(y, "see", 24, 0, 5);
        Edge.due(15, y, "kinds", 0);
    }

    private static void griefsBounds() {
        Edge.promise(31, "GRIEF that a ONE may have now (0 to 30; bits), all else as it is, so that all is as SEEN. BAD");
        for (int p = 0; p < 5; p++) {
            Edge.asks(Edge::full, "griefs", p);
        }
        Edge.bad(Edge::full, 0, NOBODY, "griefs", 0);
        Edge.bad(BarrowGrief::new, 0, new int[] {-1, 0}, "griefs", 0);
    }

    private static void griefsOf0To30() {
        Edge.promise(31, "GRIEF that a ONE may have now (0 to 30; bits)");
        BarrowGrief x = Edge.told("plain 99 99;plain 7 99;rota 0 1;");
        Edge.due(MAX, x, "griefs", 0);
        Edge.due(MAX, x, "griefs", 1);
        for (int g = 0; g <= 99; g++) {
            Edge.call(x, "see", 0, 0, g);
            Edge.due(g <= 30 ? 1 << g : 0, x, "griefs", 0);
            Edge.call(x, "forget", 0);
        }
        Edge.due(99, x, "one", 0, 1);
        // Behind an HOUR 0 is what 0 to 4 come to, 26 what 30 comes to.
        Edge.call(x, "see", 1, 0, 0);
        Edge.due(31, x, "griefs", 0);
        Edge.due(0, x, "griefs", 1);
        Edge.call(x, "forget", 0);
        Edge.call(x, "see", 1, 0, 26);
        Edge.due(1 << 30, x, "griefs", 0);
        Edge.call(x, "forget", 0);
        Edge.call(x, "see", 1, 0, 27);
        Edge.due(0, x, "griefs", 0);
        Edge.promise(31, "all else as it is");
        Edge.call(x, "forget", 0);
        Edge.call(x, "see", 0, 1, 7);
        Edge.due(MAX, x, "griefs", 0);
        Edge.due(1 << 7, x, "griefs", 1);
        Edge.promise(31, "all is as SEEN: behind 24 HOURS too");
        BarrowGrief y = Edge.told("child 9 99;barrow 2 0;rota 0;");
        // Behind 24 HOURS he has 25 less, or none.
        Edge.call(y, "see", 24, 0, 5);
        Edge.due(1 << 30, y, "griefs", 0);
        Edge.call(y, "forget", 0);
        Edge.call(y, "see", 24, 0, 0);
        Edge.due((1 << 26) - 1, y, "griefs", 0);
    }

    // ---- promise 32

    private static void askBounds() {
        Edge.promise(32, "Behind how many HOURS (0 to 24), of whose GRIEF to ask (what 0), how many these are (1). BAD");
        for (int p = 0; p < 5; p++) {
            Edge.asks(Edge::full, "ask", p, 0);
            Edge.asks(Edge::full, "ask", p, 1);
            Edge.bad(Edge::full, 1, NOT_0_OR_1, "ask", p, 0);
        }
        Edge.bad(Edge::full, 0, NOBODY, "ask", 0, 0);
        Edge.bad(Edge::full, 0, NOBODY, "ask", 0, 1);
        Edge.bad(BarrowGrief::new, 0, new int[] {-1, 0}, "ask", 0, 0);
        Edge.asks(LuckSeenEdgesTest::sixSeen, "ask", 0, 0);
    }

    private static void asks(BarrowGrief x, int p, int when, int left) {
        Edge.due(when, x, "ask", p, 0);
        Edge.due(left, x, "ask", p, 1);
    }

    private static void askWhenNoneIsLeft() {
        Edge.promise(32, "fewest are left at the worst, fewer than now. NONE: none");
        BarrowGrief x = Edge.told("plain 9 99;child 9 99;barrow 99 0;rota 0;");
        asks(x, 0, 10, 1);
        // By no KIND of one who has no TURN is anything else.
        asks(x, 1, NONE, NONE);
        // One KIND is left, then none.
        Edge.call(x, "see", 1, 0, 5);
        asks(x, 0, NONE, NONE);
        Edge.call(x, "see", 0, 0, 8);
        asks(x, 0, NONE, NONE);
        Edge.call(x, "forget", 0);
        asks(x, 0, 10, 1);
        Edge.call(x, "cut", 0);
        asks(x, 0, NONE, NONE);
        Edge.promise(32, "fewer than now: not when one KIND is left, whichever it is");
        int[] griefs = {5, 1, 7, 4};
        for (int k = 0; k < 4; k++) {
            BarrowGrief one = Edge.told("plain 9 99;child 9 99;barrow 99 0;rota 0;");
            Edge.call(one, "see", 1, 0, griefs[k]);
            Edge.due(1 << k, one, "kinds", 0);
            asks(one, 0, NONE, NONE);
        }
        Edge.promise(32, "the first that fits: BAD, NONE");
        Edge.due(BAD, x, "ask", 0, 2);
        Edge.due(BAD, x, "ask", 2, 0);
        Edge.promise(32, "of kinds() of a ONE: of those that are left alone");
        // Of 4 a child leaves 2, all others none: three are left at the worst, of plain and stout both.
        BarrowGrief y = Edge.told("plain 4 99;rota 0;");
        asks(y, 0, 10, 3);
        Edge.call(y, "see", 1, 0, 0);
        Edge.due(11, y, "kinds", 0);
        asks(y, 0, NONE, NONE);
    }

    private static void asksBehind24() {
        Edge.promise(32, "Behind how many HOURS (0 to 24): 10 times the HOURS and who");
        for (int hours = 17; hours <= 24; hours++) {
            asks(shownBehind(hours, 0), 0, 10 * hours, 2);
        }
        asks(shownBehind(24, 4), 4, 244, 2);
        asks(shownBehind(24, 3), 3, 243, 2);
        asks(shownBehind(25, 0), 0, NONE, NONE);
        asks(shownBehind(25, 4), 4, NONE, NONE);
    }

    private static void askOfSeveral() {
        Edge.promise(32, "of several the least (what 0)");
        // He has 12, 8, 14, 11 behind an HOUR, by KIND, and others behind more of them; the other stays.
        asks(Edge.told("plain 16 99;plain 9 99;barrow 99 0;rota 0;"), 0, 10, 1);
        asks(Edge.told("stout 0 99;plain 16 99;barrow 99 0;rota 1;"), 1, 11, 1);
        // Beyond 1 are 2, 6, 0, 3, by KIND: ONE 0 has 1, 3, 0, 2 then, ONE 1 13, 11, 14, 12: either would tell.
        asks(Edge.told("plain 0 9;plain 16 1;barrow 99 0;rota 1;"), 1, 10, 1);
        Edge.promise(32, "so that fewest are left at the worst");
        // 0, 0, 2, 0 are left of 4, by KIND: three of the same.
        asks(Edge.told("plain 4 99;rota 0;"), 0, 10, 3);
        // 1, 0, 3, 0 are left of 5: two of the same.
        asks(Edge.told("plain 5 99;rota 0;"), 0, 10, 2);
        // 2, 0, 4, 1 are left of 6.
        asks(Edge.told("plain 6 99;rota 0;"), 0, 10, 1);
    }

    // ---- promise 33

    private static void driftBounds() {
        Edge.promise(33, "n HOURS (1 to 60) by a seed: ALL in the end (what 0), SPILT in them (1). BAD");
        int[] seeds = {MIN, -1, 0, 1, MAX};
        for (int seed : seeds) {
            for (int what = 0; what < 2; what++) {
                Edge.bad(Edge::full, 1, new int[] {MIN, -1, 0, 61, MAX}, "drift", seed, 1, what);
                Edge.asks(Edge::full, "drift", seed, 1, what);
                Edge.asks(Edge::full, "drift", seed, 60, what);
            }
            Edge.bad(Edge::full, 2, NOT_0_OR_1, "drift", seed, 1, 0);
        }
    }

    private static void driftOfNobody() {
        Edge.promise(33, "STATE: there is nobody");
        Edge.still(STATE, BarrowGrief::new, "drift", 7, 1, 0);
        Edge.still(STATE, BarrowGrief::new, "drift", 7, 60, 1);
        Edge.promise(33, "the first that fits: BAD, STATE");
        Edge.bad(BarrowGrief::new, 1, new int[] {MIN, -1, 0, 61, MAX}, "drift", 7, 1, 0);
        Edge.bad(BarrowGrief::new, 2, NOT_0_OR_1, "drift", 7, 1, 0);
    }

    /** Bits 16 to 30 of what the seed has become in so many steps, by numbers that have no end. */
    private static int got(int seed, int steps) {
        BigInteger s = BigInteger.valueOf(seed);
        for (int i = 0; i < steps; i++) {
            s = s.multiply(BigInteger.valueOf(1103515245)).add(BigInteger.valueOf(12345));
        }
        return s.shiftRight(16).mod(BigInteger.valueOf(1 << 15)).intValueExact();
    }

    /** A stout one heals nothing of 7, so that all that comes to him stays. */
    private static void driftsBySeed() {
        Edge.promise(33, "the seed becomes seed times 1103515245 and 12345; bits 16 to 30 of it are got");
        int[] seeds = {MIN, MIN + 1, -12345, -1, 0, 1, 7, 65536, 1103515245, MAX - 1, MAX};
        for (int seed : seeds) {
            BarrowGrief x = Edge.told("stout 0 7;barrow 7 0;");
            int more = 0;
            for (int n = 1; n <= 60; n++) {
                more += got(seed, n) / 64 % 3;
                Edge.due(more, x, "drift", seed, n, 0);
                Edge.due(0, x, "drift", seed, n, 1);
            }
        }
        Edge.promise(33, "it is the TURN of ONE got modulo PEOPLE; GRIEF of ONE got by 8 (down) modulo PEOPLE is more");
        for (int seed : seeds) {
            for (int people = 1; people <= 5; people++) {
                oneDrift(seed, people);
            }
        }
    }

    /** In one HOUR: who wheels is a stout one, who BEARS 1 of the 99 that are in, and heals 12 of them. */
    private static void oneDrift(int seed, int people) {
        int got = got(seed, 1);
        BarrowGrief x = Edge.told("stout 0 1;".repeat(people) + "barrow 1 99;");
        Edge.due(99 - 12 + got / 64 % 3, x, "drift", seed, 1, 0);
        Edge.due(99 - 12 - 1, x, "drift", seed, 1, 1);
        for (int p = 0; p < people; p++) {
            // He alone BEARS all.
            BarrowGrief y = Edge.told("stout 0 1;".repeat(people) + "barrow 1 99;");
            Edge.call(y, "alter", p, 2, 99);
            Edge.due(p == got % people ? 0 : 86, y, "drift", seed, 1, 1);
            // He alone has 99, so that what would come to him is lost.
            BarrowGrief z = Edge.told("stout 0 99;".repeat(people) + "barrow 1 99;");
            Edge.call(z, "alter", p, 1, 99);
            int lost = p == got / 8 % people ? got / 64 % 3 : 0;
            Edge.due(99 + 99 - 12 + got / 64 % 3 - lost, z, "drift", seed, 1, 0);
        }
    }

    private static void driftTo99() {
        Edge.promise(33, "is got by 64 (down) modulo 3 more (99 at most)");
        int[] had = {0, 97, 98, 99};
        // By a seed of 1 are got 16838: 2 more.
        for (int grief : had) {
            BarrowGrief x = Edge.told("stout " + grief + " 7;barrow 7 7;");
            Edge.due(Math.min(99, grief + 2) + 7, x, "drift", 1, 1, 0);
        }
        BarrowGrief full = Edge.told("stout 99 7;barrow 7 7;");
        Edge.due(106, full, "drift", 1, 60, 0);
        Edge.due(99, full, "one", 0, 1);
    }

    private static void driftWhateverTheRotaIs() {
        Edge.promise(33, "whatever THE ROTA is");
        String people = "plain 9 3;stout 20 2;child 7 1;widow 12 4;plain 30 5;barrow 20 5;";
        String[] rotas = {"", "rota;", "rota 0;", "rota 4 4 4 4 4 4 4 4;", "rota 3 2 1 0;"};
        int[] seeds = {MIN, -1, 0, 7, MAX};
        for (int seed : seeds) {
            BarrowGrief x = Edge.told(people);
            for (String rota : rotas) {
                BarrowGrief y = Edge.told(people + rota);
                Edge.call(y, "hours", 0);
                for (int n = 1; n <= 60; n += 59) {
                    Edge.due(Edge.call(x, "drift", seed, n, 0), y, "drift", seed, n, 0);
                    Edge.due(Edge.call(x, "drift", seed, n, 1), y, "drift", seed, n, 1);
                }
            }
        }
    }
}
