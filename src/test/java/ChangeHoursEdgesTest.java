import java.util.function.Supplier;

/** Promises 9 to 18 at their edges: what is changed, and hours. */
public final class ChangeHoursEdgesTest {
    private static final int BAD = BarrowGrief.BAD, FULL = BarrowGrief.FULL, NONE = BarrowGrief.NONE;
    private static final int MIN = Edge.MIN, MAX = Edge.MAX;
    private static final int[] HANDS = {4, 8, 2, 5};
    private static final String[] KINDS = {"plain", "stout", "child", "widow"};

    /** Behind n HOURS, from 1 on, the child has 98 - n, and ALL is 99 - n: of 2 that are in, 1 is healed each time. */
    static final String ONE_EACH = "child 99 99;barrow 2 0;rota 0;";

    /**
     * The first that is SPILT is so in the 60th HOUR: the child puts nothing, then 2 each time, of 7 heals 2, and the
     * widow fills 5 up to 8, of which she heals 3; until, the child having put its last 1 in its 51st TURN and nothing in
     * its 52nd, she puts 5 to 2, heals 1, and 6 are more than the 5 that she BEARS.
     */
    static final String SPILT_AT_60 = "child 99 99;widow 50 5;barrow 8 8;rota 0 0 0 1 0 0 0 0;";

    public static void main(String[] args) {
        alters();
        alterIsOfOneThing();
        takes();
        loads();
        rotas();
        cuts();
        hoursBounds();
        hoursUpTo999();
        turnByTurn();
        noTurns();
        putsHandOrGrief();
        putsWhatTheBarrowTakes();
        healsOfWhatIsIn();
        bearsJustSoMuch();
        spilledRound();
        lostBeyond99();
        runsBounds();
        runsFirstSpilt();
        runsGreatestLoad();
        runsFromNowOn();
        aheads();
        unders();
        lights();
        Edge.finish(9, 18);
    }

    // ---- promises 9 to 13

    private static void alters() {
        Edge.promise(9, "KIND, GRIEF, what he BEARS (what 0 to 2) of a ONE becomes v: what it was. BAD");
        int[] low = {0, 0, 1};
        int[] high = {3, 99, 99};
        for (int what = 0; what < 3; what++) {
            BarrowGrief x = Edge.told("plain 9 5;stout 8 6;");
            for (int p = 0; p < 2; p++) {
                Edge.call(x, "alter", p, what, high[what]);
                Edge.due(high[what], x, "alter", p, what, low[what]);
                Edge.due(low[what], x, "one", p, what);
                Edge.due(low[what], x, "alter", p, what, high[what]);
                Edge.due(high[what], x, "one", p, what);
            }
            int[] numbers = {MIN, low[what] - 1, high[what] + 1, MAX};
            for (int p = 0; p < 5; p++) {
                Edge.bad(Edge::full, 2, numbers, "alter", p, what, 0);
            }
            Edge.bad(Edge::full, 0, new int[] {MIN, -1, 5, MAX}, "alter", 0, what, 1);
            Edge.bad(BarrowGrief::new, 0, new int[] {MIN, -1, 0, MAX}, "alter", 0, what, 1);
        }
        Edge.bad(Edge::full, 1, new int[] {MIN, -1, 3, MAX}, "alter", 0, 0, 1);
    }

    private static void alterIsOfOneThing() {
        Edge.promise(9, "of a ONE becomes v");
        int[][] was = {{0, 9, 5}, {1, 20, 3}, {2, 7, 9}, {3, 12, 4}, {0, 1, 1}};
        for (int p = 0; p < 5; p++) {
            for (int what = 0; what < 3; what++) {
                BarrowGrief x = Edge.told("plain 9 5;stout 20 3;child 7 9;widow 12 4;plain 1 1;rota 0 4;");
                int v = was[p][what] == 2 ? 3 : 2;
                Edge.due(was[p][what], x, "alter", p, what, v);
                for (int q = 0; q < 5; q++) {
                    for (int other = 0; other < 3; other++) {
                        Edge.due(q == p && other == what ? v : was[q][other], x, "one", q, other);
                    }
                }
            }
        }
    }

    private static void takes() {
        Edge.promise(10, "What THE BARROW TAKES (1 to 99; 30 at first) becomes v: what it was. BAD");
        BarrowGrief x = new BarrowGrief();
        Edge.due(30, x, "takes", 1);
        Edge.due(1, x, "rule", 3);
        Edge.due(1, x, "takes", 99);
        Edge.due(99, x, "rule", 3);
        Edge.due(99, x, "takes", 99);
        Edge.due(0, x, "rule", 2);
        int[] numbers = {MIN, -1, 0, 100, MAX};
        Edge.bad(Edge::full, 0, numbers, "takes", 1);
        Edge.bad(BarrowGrief::new, 0, numbers, "takes", 1);
        Edge.promise(10, "What THE BARROW TAKES may be less than LOAD");
        Edge.call(x, "load", 99);
        Edge.due(99, x, "takes", 1);
        Edge.due(99, x, "rule", 2);
    }

    private static void loads() {
        Edge.promise(11, "LOAD becomes v (0 to 99): what it was. BAD");
        BarrowGrief x = new BarrowGrief();
        Edge.due(0, x, "load", 99);
        Edge.due(99, x, "rule", 2);
        Edge.due(30, x, "rule", 3);
        Edge.due(99, x, "load", 0);
        Edge.due(0, x, "rule", 2);
        Edge.due(0, x, "load", 0);
        int[] numbers = {MIN, -1, 100, MAX};
        Edge.bad(Edge::full, 0, numbers, "load", 1);
        Edge.bad(BarrowGrief::new, 0, numbers, "load", 1);
    }

    private static BarrowGrief fullRota() {
        BarrowGrief x = Edge.full();
        for (int i = 0; i < 4; i++) {
            Edge.call(x, "rota", 4 - i);
        }
        return x;
    }

    private static void rotas() {
        Edge.promise(12, "A TURN more in THE ROTA: how many it has. BAD; FULL");
        BarrowGrief x = Edge.told("plain 9 5;stout 8 6;child 7 7;");
        for (int i = 1; i <= 8; i++) {
            Edge.due(i, x, "rota", i % 3);
            Edge.due(i % 3, x, "turn", i - 1);
        }
        Edge.due(FULL, x, "rota", 0);
        Edge.due(8, x, "rule", 5);
        Edge.due(8, x, "cut", 7);
        Edge.due(8, x, "rota", 1);
        Edge.due(FULL, x, "rota", 2);
        Edge.due(1, x, "turn", 7);
        int[] nobody = {MIN, -1, 5, MAX};
        Edge.bad(Edge::full, 0, nobody, "rota", 0);
        for (int p = 0; p < 5; p++) {
            Edge.still(FULL, ChangeHoursEdgesTest::fullRota, "rota", p);
        }
        Edge.promise(12, "the first that fits: BAD, FULL");
        Edge.bad(ChangeHoursEdgesTest::fullRota, 0, nobody, "rota", 0);
        Edge.bad(BarrowGrief::new, 0, new int[] {-1, 0, 4}, "rota", 0);
    }

    private static void cuts() {
        Edge.promise(13, "THE ROTA has its first n TURNS alone: how many it had. BAD");
        BarrowGrief x = Edge.told("plain 9 5;stout 8 6;child 7 7;rota 2 1 0 2 1 0 2 1;");
        Edge.due(BAD, x, "cut", 9);
        Edge.due(8, x, "cut", 8);
        Edge.due(8, x, "cut", 7);
        Edge.due(BAD, x, "cut", 8);
        Edge.due(7, x, "cut", 2);
        Edge.due(2, x, "rule", 5);
        Edge.due(2, x, "turn", 0);
        Edge.due(1, x, "turn", 1);
        Edge.due(BAD, x, "turn", 2);
        Edge.due(3, x, "rota", 0);
        Edge.due(0, x, "turn", 2);
        Edge.due(3, x, "cut", 0);
        Edge.due(0, x, "cut", 0);
        Edge.due(BAD, x, "cut", 1);
        Edge.bad(Edge::full, 0, new int[] {MIN, -1, 5, 8, MAX}, "cut", 0);
        Edge.bad(BarrowGrief::new, 0, new int[] {MIN, -1, 1, MAX}, "cut", 0);
        Edge.bad(ChangeHoursEdgesTest::fullRota, 0, new int[] {-1, 9}, "cut", 0);
        Edge.still(4, Edge::full, "cut", 4);
        Edge.still(8, ChangeHoursEdgesTest::fullRota, "cut", 8);
    }

    // ---- promise 14, and what an hour does

    private static void hoursBounds() {
        Edge.promise(14, "n HOURS (0 to 30): how much is HEALED in them. BAD");
        BarrowGrief x = Edge.told(ONE_EACH);
        Edge.due(30, x, "hours", 30);
        Edge.due(30, x, "rule", 1);
        Edge.due(68, x, "one", 0, 1);
        Edge.due(1, x, "hours", 1);
        Edge.due(31, x, "rule", 1);
        Edge.due(0, x, "hours", 0);
        Edge.due(31, x, "rule", 1);
        int[] numbers = {MIN, -1, 31, MAX};
        Edge.bad(Edge::full, 0, numbers, "hours", 0);
        Edge.bad(BarrowGrief::new, 0, numbers, "hours", 0);
        Edge.still(0, Edge::full, "hours", 0);
    }

    private static Supplier<BarrowGrief> atHour(int hour) {
        return () -> {
            BarrowGrief x = Edge.told("plain 9 9;plain 9 9;plain 9 9;barrow 99 0;");
            for (int h = 0; h < hour; h += 30) {
                Edge.call(x, "hours", Math.min(30, hour - h));
            }
            for (int p = 0; p < 3; p++) {
                Edge.call(x, "rota", p);
            }
            return x;
        };
    }

    private static void hoursUpTo999() {
        Edge.promise(14, "FULL: HOUR would be 1000 or more");
        BarrowGrief x = atHour(969).get();
        Edge.due(969, x, "rule", 1);
        Edge.due(BAD, x, "hours", 31);
        Edge.call(x, "hours", 30);
        Edge.due(999, x, "rule", 1);
        for (int n = 1; n <= 30; n++) {
            Edge.due(FULL, x, "hours", n);
        }
        Edge.due(0, x, "hours", 0);
        Edge.still(FULL, atHour(970), "hours", 30);
        Edge.due(FULL, atHour(998).get(), "hours", 2);
        Edge.still(FULL, atHour(999), "hours", 1);
        Edge.still(FULL, atHour(999), "hours", 30);
        BarrowGrief y = atHour(998).get();
        Edge.due(1, y, "hours", 1);
        Edge.due(999, y, "rule", 1);
        Edge.promise(14, "the first that fits: BAD, FULL");
        Edge.bad(atHour(999), 0, new int[] {MIN, -1, 31, MAX}, "hours", 0);
        Edge.promise(14, "FULL: HOUR would be 1000 or more: BY HOURS it may be");
        // HOUR 999 is that of TURN 0 of 3, HOUR 1000 that of TURN 1.
        BarrowGrief z = atHour(999).get();
        Edge.due(5, z, "ahead", 0, 1);
        Edge.due(9, z, "ahead", 1, 1);
        Edge.due(5, z, "ahead", 1, 2);
        Edge.due(9, z, "ahead", 2, 2);
        Edge.due(5, z, "ahead", 2, 3);
        Edge.due(1, z, "ahead", 0, 4);
        Edge.due(999, z, "rule", 1);
    }

    private static void turnByTurn() {
        Edge.promise(14, "by the ONE of TURN HOUR modulo how many TURNS there are; HOUR is 1 more");
        BarrowGrief x = Edge.told("plain 9 99;plain 9 99;plain 9 99;barrow 99 0;rota 2 0 1;");
        int[][] griefs = {{9, 9, 5}, {5, 9, 5}, {5, 5, 5}, {5, 5, 1}, {1, 5, 1}, {1, 1, 1}, {1, 1, 0}};
        for (int h = 0; h < griefs.length; h++) {
            Edge.call(x, "hours", 1);
            Edge.due(h + 1, x, "rule", 1);
            for (int p = 0; p < 3; p++) {
                Edge.due(griefs[h][p], x, "one", p, 1);
            }
        }
        Edge.promise(14, "AN HOUR, by the ONE of TURN HOUR: of the last TURN, then of the first");
        BarrowGrief y = Edge.told("plain 90 99;plain 90 99;barrow 99 0;rota 1 0 0 0 0 0 0 1;");
        Edge.call(y, "hours", 7);
        Edge.due(86, y, "one", 1, 1);
        Edge.call(y, "hours", 1);
        Edge.due(82, y, "one", 1, 1);
        Edge.call(y, "hours", 1);
        Edge.due(78, y, "one", 1, 1);
        Edge.due(66, y, "one", 0, 1);
        Edge.call(y, "hours", 1);
        Edge.due(78, y, "one", 1, 1);
        Edge.due(62, y, "one", 0, 1);
    }

    private static void noTurns() {
        Edge.promise(14, "if there are none, nothing is done; in any case HOUR is 1 more");
        BarrowGrief x = Edge.told("child 9 1;widow 8 1;barrow 30 20;");
        Edge.due(0, x, "hours", 30);
        Edge.due(30, x, "rule", 1);
        Edge.due(20, x, "rule", 2);
        Edge.due(9, x, "one", 0, 1);
        Edge.due(8, x, "one", 1, 1);
        BarrowGrief nobody = new BarrowGrief();
        Edge.due(0, nobody, "hours", 30);
        Edge.due(30, nobody, "rule", 1);
    }

    /** One hour of one person of a KIND, who BEARS all: what he has then. */
    private static void puts(int kind, int grief, int takes, int load, int put) {
        BarrowGrief x = Edge.told(KINDS[kind] + " " + grief + " 99;barrow " + takes + " " + load + ";rota 0;");
        Edge.call(x, "hours", 1);
        Edge.due(grief - put, x, "one", 0, 1);
    }

    private static void putsHandOrGrief() {
        Edge.promise(14, "he PUTS as much of his GRIEF as his HAND holds, as he has, the least of these");
        for (int k = 0; k < 4; k++) {
            int hand = HANDS[k];
            puts(k, 0, 99, 0, 0);
            puts(k, 1, 99, 0, 1);
            puts(k, hand - 1, 99, 0, hand - 1);
            puts(k, hand, 99, 0, hand);
            puts(k, hand + 1, 99, 0, hand);
            puts(k, 99, 99, 0, hand);
        }
    }

    private static void putsWhatTheBarrowTakes() {
        Edge.promise(14, "as it TAKES (what it TAKES less LOAD; nothing, if LOAD is as much or more)");
        for (int k = 0; k < 4; k++) {
            int hand = HANDS[k];
            puts(k, 50, 10, 10 - hand - 1, hand);
            puts(k, 50, 10, 10 - hand, hand);
            puts(k, 50, 10, 10 - hand + 1, hand - 1);
            puts(k, 50, 10, 9, 1);
            puts(k, 50, 10, 10, 0);
            puts(k, 50, 10, 11, 0);
            puts(k, 50, 10, 99, 0);
            puts(k, 50, 1, 0, 1);
            puts(k, 50, 1, 1, 0);
            puts(k, 50, 99, 98, 1);
            puts(k, 50, 99, 99, 0);
            puts(k, 1, 10, 8, 1);
        }
    }

    private static void healsOfWhatIsIn() {
        Edge.promise(14, "The LOAD is had: it is less by what he HEALS of it, all of it at most");
        // KIND, GRIEF, LOAD ahead, what is HEALED, LOAD behind.
        int[][] rows = {{0, 0, 3, 0, 3}, {0, 1, 3, 1, 3}, {0, 4, 0, 1, 3}, {0, 3, 0, 0, 3}, {0, 0, 7, 1, 6}, {0, 1, 7, 2, 6},
            {1, 0, 7, 0, 7}, {1, 1, 7, 1, 7}, {1, 8, 0, 1, 7}, {1, 7, 0, 0, 7}, {1, 0, 15, 1, 14}, {1, 1, 15, 2, 14},
            {2, 0, 0, 0, 0}, {2, 1, 0, 1, 0}, {2, 2, 0, 1, 1}, {2, 0, 1, 1, 0}, {2, 0, 3, 1, 2}, {2, 1, 3, 2, 2},
            {3, 0, 0, 0, 0}, {3, 1, 0, 1, 0}, {3, 2, 0, 1, 1}, {3, 0, 1, 1, 0}, {3, 0, 7, 1, 6}, {3, 1, 7, 3, 5}};
        for (int[] r : rows) {
            BarrowGrief x = Edge.told(KINDS[r[0]] + " " + r[1] + " 99;barrow 99 " + r[2] + ";rota 0;");
            Edge.due(r[3], x, "runs", 1, 1);
            Edge.due(r[3], x, "hours", 1);
            Edge.due(r[4], x, "rule", 2);
            Edge.due(0, x, "one", 0, 1);
        }
    }

    private static void bearsJustSoMuch() {
        Edge.promise(14, "If it is more than he BEARS, all beyond is SPILT");
        for (int bears = 1; bears <= 4; bears++) {
            // 4 are put, 1 is healed: 3 are to be borne.
            BarrowGrief x = Edge.told("plain 4 " + bears + ";plain 0 1;rota 0;");
            int spilt = Math.max(0, 3 - bears);
            Edge.due(spilt, x, "runs", 1, 2);
            Edge.due(1, x, "hours", 1);
            Edge.due(3 - spilt, x, "rule", 2);
            Edge.due(spilt > 0 ? 1 : 0, x, "one", 1, 1);
            Edge.due(spilt > 1 ? 1 : 0, x, "one", 0, 1);
        }
        // Of 99 a stout one heals 12: 87 are to be borne.
        int[] bears = {86, 87, 88, 99};
        int[] spilt = {1, 0, 0, 0};
        for (int i = 0; i < bears.length; i++) {
            BarrowGrief x = Edge.told("stout 0 " + bears[i] + ";barrow 1 99;rota 0;");
            Edge.due(spilt[i], x, "runs", 1, 2);
            Edge.due(12, x, "hours", 1);
            Edge.due(87 - spilt[i], x, "rule", 2);
            Edge.due(spilt[i], x, "one", 0, 1);
        }
    }

    /** A stout one puts 8, heals 1 of them, and BEARS so much: what all have then, who had nothing but he. */
    private static void spills(int people, int who, int bears, int... griefs) {
        StringBuilder text = new StringBuilder();
        for (int p = 0; p < people; p++) {
            text.append(p == who ? "stout 8 " + bears + ";" : "plain 0 1;");
        }
        BarrowGrief x = Edge.told(text + "rota " + who + ";");
        Edge.due(7 - bears, x, "runs", 1, 2);
        Edge.due(1, x, "hours", 1);
        Edge.due(bears, x, "rule", 2);
        for (int p = 0; p < people; p++) {
            Edge.due(griefs[p], x, "one", p, 1);
        }
    }

    private static void spilledRound() {
        Edge.promise(14, "GRIEF of the ONE behind him by order is 1 more, then of the next one, round, him too");
        spills(1, 0, 7, 0);
        spills(1, 0, 6, 1);
        spills(1, 0, 1, 6);
        spills(2, 0, 6, 0, 1);
        spills(2, 1, 6, 1, 0);
        spills(2, 1, 5, 1, 1);
        spills(2, 1, 4, 2, 1);
        spills(3, 0, 3, 1, 2, 1);
        spills(3, 1, 3, 1, 1, 2);
        spills(3, 2, 3, 2, 1, 1);
        spills(5, 4, 6, 1, 0, 0, 0, 0);
        spills(5, 4, 3, 1, 1, 1, 1, 0);
        spills(5, 4, 2, 1, 1, 1, 1, 1);
        spills(5, 4, 1, 2, 1, 1, 1, 1);
        spills(5, 3, 6, 0, 0, 0, 0, 1);
        spills(5, 3, 5, 1, 0, 0, 0, 1);
        spills(5, 0, 1, 1, 2, 1, 1, 1);
    }

    private static void lostBeyond99() {
        Edge.promise(14, "99 at most: beyond that it is lost");
        // 4 are SPILT: to ONE 1, 0, 1, 0.
        int[] had = {96, 97, 98, 99};
        int[] has = {98, 99, 99, 99};
        for (int i = 0; i < had.length; i++) {
            BarrowGrief x = Edge.told("stout 8 3;plain " + had[i] + " 1;rota 0;");
            Edge.due(4, x, "runs", 1, 2);
            Edge.due(has[i] + 2 + 3, x, "runs", 1, 0);
            Edge.call(x, "hours", 1);
            Edge.due(has[i], x, "one", 1, 1);
            Edge.due(2, x, "one", 0, 1);
            Edge.due(3, x, "rule", 2);
        }
        Edge.promise(14, "him too (99 at most: beyond that it is lost)");
        BarrowGrief x = Edge.told("plain 99 1;barrow 1 99;rota 0;");
        Edge.due(74, x, "runs", 1, 2);
        Edge.due(24, x, "hours", 1);
        Edge.due(99, x, "one", 0, 1);
        Edge.due(1, x, "rule", 2);
    }

    // ---- promise 15

    private static void runsBounds() {
        Edge.promise(15, "BY HOURS, n of them (0 to 60): ALL then (what 0), HEALED (1), SPILT (2), first any is (3). BAD");
        BarrowGrief x = Edge.told(ONE_EACH);
        int[][] due = {{99, 0, 0, NONE, 0}, {98, 1, 0, NONE, 1}, {40, 59, 0, NONE, 1}, {39, 60, 0, NONE, 1}};
        int[] hours = {0, 1, 59, 60};
        for (int i = 0; i < hours.length; i++) {
            for (int what = 0; what < 5; what++) {
                Edge.due(due[i][what], x, "runs", hours[i], what);
            }
        }
        for (int what = 0; what < 5; what++) {
            Edge.bad(Edge::full, 0, new int[] {MIN, -1, 61, MAX}, "runs", 0, what);
            Edge.asks(Edge::full, "runs", 60, what);
        }
        Edge.bad(Edge::full, 1, new int[] {MIN, -1, 5, MAX}, "runs", 0, 0);
        Edge.bad(Edge::full, 1, new int[] {MIN, -1, 5, MAX}, "runs", 60, 0);
    }

    private static void runsFirstSpilt() {
        Edge.promise(15, "behind how many first any is (3; NONE)");
        BarrowGrief x = Edge.told(SPILT_AT_60);
        Edge.due(NONE, x, "runs", 0, 3);
        Edge.due(NONE, x, "runs", 59, 3);
        Edge.due(60, x, "runs", 60, 3);
        Edge.due(0, x, "runs", 59, 2);
        Edge.due(1, x, "runs", 60, 2);
        BarrowGrief y = Edge.told("stout 99 1;rota 0;");
        Edge.due(NONE, y, "runs", 0, 3);
        Edge.due(1, y, "runs", 1, 3);
        Edge.due(1, y, "runs", 60, 3);
        // The first HOUR is that of one who has nothing.
        BarrowGrief z = Edge.told("stout 99 1;plain 0 1;rota 1 0;");
        Edge.due(NONE, z, "runs", 1, 3);
        Edge.due(2, z, "runs", 2, 3);
        Edge.due(2, z, "runs", 60, 3);
    }

    private static void runsGreatestLoad() {
        Edge.promise(15, "the greatest LOAD behind any of them, now too (4)");
        BarrowGrief x = Edge.told("plain 0 99;barrow 1 99;rota 0;");
        Edge.due(99, x, "runs", 0, 4);
        Edge.due(99, x, "runs", 60, 4);
        // 4 are in while it is wheeled, 3 behind it.
        BarrowGrief y = Edge.told("plain 4 99;rota 0;");
        Edge.due(0, y, "runs", 0, 4);
        Edge.due(3, y, "runs", 1, 4);
        // 7 behind the first HOUR, 6, 5, 4, 3 behind the others: it is neither now nor in the end.
        BarrowGrief z = Edge.told("stout 8 99;plain 0 99;rota 0 1 1 1 1 1 1 1;");
        Edge.due(7, z, "runs", 1, 4);
        Edge.due(7, z, "runs", 5, 4);
        Edge.due(3, z, "runs", 5, 0);
        // What is SPILT is in no more.
        BarrowGrief s = Edge.told("stout 8 2;rota 0;");
        Edge.due(2, s, "runs", 1, 4);
    }

    private static void runsFromNowOn() {
        Edge.promise(15, "BY HOURS: as it would be from now on");
        BarrowGrief x = Edge.told("plain 0 99;child 9 99;barrow 30 3;rota 0 0 1;");
        Edge.due(12, x, "runs", 2, 0);
        Edge.due(10, x, "runs", 3, 0);
        Edge.call(x, "hours", 2);
        Edge.due(12, x, "runs", 0, 0);
        Edge.due(10, x, "runs", 1, 0);
        Edge.due(2, x, "runs", 1, 1);
    }

    // ---- promises 16 to 18

    private static void aheads() {
        Edge.promise(16, "BY HOURS: GRIEF of a ONE behind n of them (0 to 60). BAD");
        BarrowGrief x = Edge.told(ONE_EACH);
        Edge.due(99, x, "ahead", 0, 0);
        Edge.due(97, x, "ahead", 0, 1);
        Edge.due(39, x, "ahead", 0, 59);
        Edge.due(38, x, "ahead", 0, 60);
        Edge.call(x, "hours", 1);
        Edge.due(97, x, "ahead", 0, 0);
        Edge.due(37, x, "ahead", 0, 60);
        for (int p = 0; p < 5; p++) {
            Edge.bad(Edge::full, 1, new int[] {MIN, -1, 61, MAX}, "ahead", p, 0);
            Edge.asks(Edge::full, "ahead", p, 60);
        }
        Edge.bad(Edge::full, 0, new int[] {MIN, -1, 5, MAX}, "ahead", 0, 0);
        Edge.bad(Edge::full, 0, new int[] {MIN, -1, 5, MAX}, "ahead", 0, 60);
        Edge.bad(BarrowGrief::new, 0, new int[] {-1, 0}, "ahead", 0, 0);
    }

    private static void unders() {
        Edge.promise(17, "behind how many (0 to 60) ALL is w (0 to 999) or less first. BAD; NONE: behind none");
        BarrowGrief x = Edge.told(ONE_EACH);
        int[][] due = {{999, 0}, {100, 0}, {99, 0}, {98, 1}, {97, 2}, {40, 59}, {39, 60}, {38, NONE}, {0, NONE}};
        for (int[] d : due) {
            Edge.due(d[1], x, "under", d[0]);
        }
        int[] numbers = {MIN, -1, 1000, MAX};
        Edge.bad(Edge::full, 0, numbers, "under", 0);
        Edge.bad(BarrowGrief::new, 0, numbers, "under", 0);
        Edge.asks(Edge::full, "under", 0);
        Edge.asks(Edge::full, "under", 9);
        Edge.asks(Edge::full, "under", 999);
        Edge.promise(17, "ALL: GRIEF of all and LOAD, summed");
        BarrowGrief y = Edge.told("plain 0 9;child 1 9;barrow 1 1;rota 0 1;");
        // The child heals the 1 that is in, then puts and heals its own.
        Edge.due(0, y, "under", 2);
        Edge.due(2, y, "under", 1);
        Edge.due(4, y, "under", 0);
        // With no TURN nothing ever changes.
        BarrowGrief z = Edge.told("plain 3 9;barrow 30 4;");
        Edge.due(0, z, "under", 7);
        Edge.due(NONE, z, "under", 6);
    }

    private static void lights() {
        Edge.promise(18, "behind how many (0 to 60) a ONE has no GRIEF first. BAD; NONE: behind none");
        int[][] due = {{0, 0}, {1, 1}, {2, 1}, {3, 2}, {60, 59}, {61, 60}, {62, NONE}, {99, NONE}};
        BarrowGrief x = Edge.told(ONE_EACH);
        for (int[] d : due) {
            Edge.call(x, "alter", 0, 1, d[0]);
            Edge.due(d[1], x, "light", 0);
        }
        Edge.promise(18, "has no GRIEF first: not when it has come back");
        // He puts all he has, and 6 of it are SPILT: 3 to the other, 3 to him, in the end.
        BarrowGrief y = Edge.told("stout 8 1;plain 0 9;rota 0;");
        Edge.due(0, y, "light", 1);
        Edge.due(3, y, "ahead", 1, 1);
        Edge.due(3, y, "ahead", 0, 1);
        BarrowGrief z = Edge.told("stout 4 7;rota 0;");
        Edge.due(1, z, "light", 0);
        for (int p = 0; p < 5; p++) {
            Edge.asks(Edge::full, "light", p);
        }
        Edge.bad(Edge::full, 0, new int[] {MIN, -1, 5, MAX}, "light", 0);
        Edge.bad(BarrowGrief::new, 0, new int[] {-1, 0}, "light", 0);
    }
}
