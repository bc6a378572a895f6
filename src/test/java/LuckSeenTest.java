/** Promises 26 to 33: hours that are forgotten, what was seen, hours by a seed. */
public final class LuckSeenTest {
    /** A child who heals just 1 in each hour: ALL is 99 less the hours that are not forgotten. */
    private static final String ONE_EACH = "child 99 99;barrow 2 0;rota 0;";
    private static final String THREE = "stout 20 3;plain 5 9;child 0 1;rota 0 1;";

    public static void main(String[] args) {
        lucks();
        means();
        sees();
        kindsAsSeen();
        griefsAsSeen();
        asks();
        drifts();
        Due.finish();
    }

    private static void luck(BarrowGrief x, int v, int n, int w, long top, long bottom) {
        Due.due("luck(" + v + ", " + n + ", " + w + ", 0)", x.luck(v, n, w, 0), top);
        Due.due("luck(" + v + ", " + n + ", " + w + ", 1)", x.luck(v, n, w, 1), bottom);
    }

    private static void mean(BarrowGrief x, int v, int n, long top, long bottom) {
        Due.due("mean(" + v + ", " + n + ", 0)", x.mean(v, n, 0), top);
        Due.due("mean(" + v + ", " + n + ", 1)", x.mean(v, n, 1), bottom);
    }

    private static void lucks() {
        BarrowGrief x = Due.told(ONE_EACH);
        String before = Due.state(x);
        luck(x, 3, 2, 98, 91, 100);
        luck(x, 3, 2, 99, 1, 1);
        luck(x, 5, 2, 97, 1, 4);
        luck(x, 10, 8, 98, 0, 1);
        luck(x, 10, 8, 99, 1, 1);
        luck(x, 0, 8, 91, 1, 1);
        luck(x, 0, 8, 90, 0, 1);
        luck(x, 1, 8, 91, 43046721, 100000000);
        luck(x, 4, 0, 99, 1, 1);
        luck(x, 4, 0, 98, 0, 1);
        luck(x, 4, 1, 999, 1, 1);
        luck(x, 4, 1, 0, 0, 1);
        Due.same("luck", Due.state(x), before);
        int[][] bad = {{-1, 1, 1, 0}, {11, 1, 1, 0}, {1, -1, 1, 0}, {1, 9, 1, 0}, {1, 1, -1, 0}, {1, 1, 1000, 0},
            {1, 1, 1, 2}, {1, 1, 1, -1}};
        for (int[] b : bad) {
            Due.due("luck(" + b[0] + ", " + b[1] + ", " + b[2] + ", " + b[3] + ")", x.luck(b[0], b[1], b[2], b[3]), -1);
        }
    }

    private static void means() {
        BarrowGrief x = Due.told(ONE_EACH);
        mean(x, 3, 2, 488, 5);
        mean(x, 1, 8, 459, 5);
        mean(x, 5, 1, 197, 2);
        mean(x, 7, 0, 99, 1);
        mean(x, 0, 8, 91, 1);
        mean(x, 10, 8, 99, 1);
        mean(new BarrowGrief(), 3, 8, 0, 1);
        int[][] bad = {{-1, 1, 0}, {11, 1, 0}, {1, -1, 0}, {1, 9, 0}, {1, 1, 2}, {1, 1, -1}};
        for (int[] b : bad) {
            Due.due("mean(" + b[0] + ", " + b[1] + ", " + b[2] + ")", x.mean(b[0], b[1], b[2]), -1);
        }
        // A forgotten hour is 1 more, too: then the second is the child's in any case, who heals 2 of 5.
        BarrowGrief y = Due.told("plain 0 99;child 9 99;barrow 30 3;rota 0 1;");
        mean(y, 5, 2, 11, 1);
        luck(y, 5, 2, 10, 1, 2);
    }

    private static void sees() {
        BarrowGrief x = Due.told(THREE);
        int[][] bad = {{-1, 0, 0}, {25, 0, 0}, {0, 3, 0}, {0, -1, 0}, {0, 0, -1}, {0, 0, 100}};
        for (int[] b : bad) {
            Due.due("see(" + b[0] + ", " + b[1] + ", " + b[2] + ")", x.see(b[0], b[1], b[2]), -1);
        }
        Due.due("count(0)", x.count(0), 0);
        Due.due("see(0, 0, 20)", x.see(0, 0, 20), 1);
        Due.due("see(24, 2, 99)", x.see(24, 2, 99), 2);
        Due.due("see(0, 0, 20) again", x.see(0, 0, 20), 3);
        Due.due("see(1, 1, 0)", x.see(1, 1, 0), 4);
        Due.due("see(1, 1, 0)", x.see(1, 1, 0), 5);
        Due.due("see(1, 1, 0)", x.see(1, 1, 0), 6);
        Due.due("see(1, 1, 0) the 7th", x.see(1, 1, 0), -3);
        Due.due("see(25, 1, 0) the 7th", x.see(25, 1, 0), -1);
        Due.due("forget(7)", x.forget(7), -1);
        Due.due("forget(-1)", x.forget(-1), -1);
        Due.due("forget(6)", x.forget(6), 6);
        Due.due("forget(1)", x.forget(1), 6);
        Due.due("count(0)", x.count(0), 1);
        Due.due("griefs(0), the first is kept", x.griefs(0), 1 << 20);
        Due.due("forget(0)", x.forget(0), 1);
        Due.due("forget(1)", x.forget(1), -1);
        Due.due("forget(0)", x.forget(0), 0);
    }

    private static void kindsAsSeen() {
        BarrowGrief x = Due.told(THREE);
        String before = Due.state(x);
        Due.due("kinds(0), nothing is seen", x.kinds(0), 15);
        Due.due("kinds(3)", x.kinds(3), -1);
        Due.due("kinds(-1)", x.kinds(-1), -1);
        Due.same("kinds", Due.state(x), before);
        // The plain one is 5 behind an hour of plain or child, 6 of a widow, 7 of a stout one.
        x.see(1, 1, 7);
        Due.due("kinds(0) of 7", x.kinds(0), 2);
        Due.due("kinds(2) of 7, who has no turn", x.kinds(2), 15);
        x.forget(0);
        x.see(1, 1, 6);
        Due.due("kinds(0) of 6", x.kinds(0), 8);
        Due.due("kinds(2) of 6, who has no turn", x.kinds(2), 0);
        x.forget(0);
        x.see(1, 1, 5);
        Due.due("kinds(0) of 5", x.kinds(0), 5);
        x.see(1, 0, 16);
        Due.due("kinds(0) of 5 and 16", x.kinds(0), 1);
        x.see(0, 0, 19);
        Due.due("kinds(0) of 19 now", x.kinds(0), 0);
        x.forget(0);
        x.see(1, 1, 7);
        x.see(0, 1, 5);
        Due.due("kinds(0), told the later first", x.kinds(0), 2);
        Due.due("kinds(0) of nobody", new BarrowGrief().kinds(0), -1);
    }

    private static void griefsAsSeen() {
        BarrowGrief x = Due.told(THREE);
        Due.due("griefs(0), nothing is seen", x.griefs(0), Integer.MAX_VALUE);
        Due.due("griefs(3)", x.griefs(3), -1);
        Due.due("griefs(-1)", x.griefs(-1), -1);
        x.see(1, 1, 7);
        // Of 7 in hand 4 are spilt, of 8 too, since 1 is healed.
        Due.due("griefs(0) of 7", x.griefs(0), Integer.MAX_VALUE - 127);
        x.see(1, 0, 4);
        // Of 11 he puts 8, has 3, and 1 that comes round.
        Due.due("griefs(0) of 7 and 4", x.griefs(0), 1 << 11);
        x.forget(0);
        x.see(0, 0, 30);
        Due.due("griefs(0) of 30", x.griefs(0), 1 << 30);
        x.forget(0);
        x.see(0, 0, 31);
        Due.due("griefs(0) of 31", x.griefs(0), 0);
    }

    private static void asks() {
        BarrowGrief x = Due.told(THREE);
        String before = Due.state(x);
        // Behind an hour he has 16, 13, 18, 15 by kind.
        Due.due("ask(0, 0)", x.ask(0, 0), 10);
        Due.due("ask(0, 1)", x.ask(0, 1), 1);
        Due.due("ask(1, 0)", x.ask(1, 0), 21);
        Due.due("ask(1, 1)", x.ask(1, 1), 1);
        Due.due("ask(2, 0), who has no turn", x.ask(2, 0), -4);
        Due.due("ask(2, 1), who has no turn", x.ask(2, 1), -4);
        Due.due("ask(3, 0)", x.ask(3, 0), -1);
        Due.due("ask(-1, 0)", x.ask(-1, 0), -1);
        Due.due("ask(0, 2)", x.ask(0, 2), -1);
        Due.due("ask(0, -1)", x.ask(0, -1), -1);
        Due.same("ask", Due.state(x), before);
        x.see(1, 1, 7);
        Due.due("ask(0, 0), one is left", x.ask(0, 0), -4);
        Due.due("ask(0, 1), one is left", x.ask(0, 1), -4);
        x.see(0, 0, 0);
        Due.due("ask(0, 0), none is left", x.ask(0, 0), -4);
        BarrowGrief y = Due.told("plain 4 99;rota 0;");
        // Behind an hour the child alone has 2, behind two nobody has any.
        Due.due("ask(0, 0) of 4", y.ask(0, 0), 10);
        Due.due("ask(0, 1) of 4", y.ask(0, 1), 3);
        y.alter(0, 1, 5);
        // 1, 0, 3, 0 by kind.
        Due.due("ask(0, 1) of 5", y.ask(0, 1), 2);
        y.see(1, 0, 0);
        Due.due("kinds(0) of 5", y.kinds(0), 10);
        Due.due("ask(0, 0) of 5", y.ask(0, 0), -4);
    }

    private static void drifts() {
        BarrowGrief x = Due.told("plain 9 9;plain 9 9;child 9 9;");
        String before = Due.state(x);
        // Of a seed of 1 are got 16838 (ONE 2; 2 more for ONE 1), 5758 (ONE 1; 2 more for ONE 2).
        Due.due("drift(1, 1, 0)", x.drift(1, 1, 0), 28);
        Due.due("drift(1, 2, 0)", x.drift(1, 2, 0), 29);
        Due.due("drift(1, 2, 1)", x.drift(1, 2, 1), 0);
        Due.same("drift", Due.state(x), before);
        x.alter(1, 1, 98);
        Due.due("drift(1, 1, 0), 99 at most", x.drift(1, 1, 0), 9 + 99 + 7 + 1);
        x.alter(1, 1, 9);
        x.alter(1, 2, 1);
        // 1 and 4 of ONE 1, 1 healed: 3 beyond 1 are spilt.
        Due.due("drift(1, 2, 1), who bears 1", x.drift(1, 2, 1), 3);
        Due.due("drift(1, 1, 1), who bears 1", x.drift(1, 1, 1), 0);
        Due.due("drift(1, 0, 0)", x.drift(1, 0, 0), -1);
        Due.due("drift(1, 61, 0)", x.drift(1, 61, 0), -1);
        Due.due("drift(1, 1, 2)", x.drift(1, 1, 2), -1);
        Due.due("drift(1, 1, -1)", x.drift(1, 1, -1), -1);
        // Then 10113, 17515, 31051, 5627: ONES 3, 3, 3, 0, 1, 2 heal 1, 1, 1, 2, 3, 3; 6 more for ONE 4, 2 for ONE 1.
        BarrowGrief y = Due.told("plain 9 99;plain 9 99;plain 9 99;plain 9 99;plain 9 99;rota 4;");
        Due.due("drift(1, 6, 0) of 5", y.drift(1, 6, 0), 45 + 8 - 11);
        y.alter(4, 1, 99);
        Due.due("drift(1, 6, 0) of 5, 6 are lost", y.drift(1, 6, 0), 135 + 2 - 11);
        BarrowGrief nobody = new BarrowGrief();
        Due.due("drift(1, 1, 0) of nobody", nobody.drift(1, 1, 0), -2);
        Due.due("drift(1, 61, 0) of nobody", nobody.drift(1, 61, 0), -1);
    }
}
