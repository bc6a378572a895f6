/** Promises 9 to 18: what is changed, and hours. */
public final class ChangeHoursTest {
    public static void main(String[] args) {
        alters();
        barrowIsChanged();
        rotaIsChanged();
        hoursByHand();
        hoursSpillRound();
        hoursLoseBeyond99();
        hoursPutWhatTheBarrowTakes();
        hoursWithoutTurns();
        hoursAtTheEdges();
        runsByHand();
        aheadUnderLight();
        Due.finish();
    }

    private static void alters() {
        BarrowGrief x = Due.told("plain 9 5;stout 8 6;");
        Due.due("alter(1, 0, 3)", x.alter(1, 0, 3), 1);
        Due.due("alter(1, 1, 0)", x.alter(1, 1, 0), 8);
        Due.due("alter(1, 1, 99)", x.alter(1, 1, 99), 0);
        Due.due("alter(1, 2, 99)", x.alter(1, 2, 99), 6);
        Due.due("alter(1, 2, 1)", x.alter(1, 2, 1), 99);
        Due.due("alter(0, 0, 0)", x.alter(0, 0, 0), 0);
        String before = Due.state(x);
        int[][] bad = {{2, 0, 0}, {-1, 0, 0}, {0, 3, 1}, {0, -1, 1}, {0, 0, 4}, {0, 0, -1}, {0, 1, 100}, {0, 1, -1},
            {0, 2, 0}, {0, 2, 100}};
        for (int[] b : bad) {
            Due.due("alter(" + b[0] + ", " + b[1] + ", " + b[2] + ")", x.alter(b[0], b[1], b[2]), -1);
        }
        Due.same("alters that are refused", Due.state(x), before);
        Due.same("alters", before, "0:9/5 3:99/1 load 0 of 30 hour 0 rota seen 0 images 0 tape 0 sheet -4 torn 0");
    }

    private static void barrowIsChanged() {
        BarrowGrief x = new BarrowGrief();
        Due.due("takes(1)", x.takes(1), 30);
        Due.due("takes(99)", x.takes(99), 1);
        Due.due("takes(0)", x.takes(0), -1);
        Due.due("takes(100)", x.takes(100), -1);
        Due.due("rule(3)", x.rule(3), 99);
        Due.due("load(99)", x.load(99), 0);
        Due.due("load(100)", x.load(100), -1);
        Due.due("load(-1)", x.load(-1), -1);
        Due.due("rule(2)", x.rule(2), 99);
        Due.due("load(0)", x.load(0), 99);
        Due.due("rule(2)", x.rule(2), 0);
    }

    private static void rotaIsChanged() {
        BarrowGrief x = Due.told("plain 9 5;stout 8 6;");
        Due.due("cut(1) of none", x.cut(1), -1);
        Due.due("cut(0) of none", x.cut(0), 0);
        Due.due("rota(2)", x.rota(2), -1);
        Due.due("rota(-1)", x.rota(-1), -1);
        for (int i = 1; i <= 8; i++) {
            Due.due("rota(" + i % 2 + ")", x.rota(i % 2), i);
        }
        Due.due("rota(0) the 9th", x.rota(0), -3);
        Due.due("rota(2) the 9th", x.rota(2), -1);
        Due.due("cut(9)", x.cut(9), -1);
        Due.due("cut(-1)", x.cut(-1), -1);
        Due.due("cut(8)", x.cut(8), 8);
        Due.due("cut(3)", x.cut(3), 8);
        Due.due("rule(5)", x.rule(5), 3);
        Due.due("turn(0)", x.turn(0), 1);
        Due.due("turn(2)", x.turn(2), 1);
        Due.due("turn(3)", x.turn(3), -1);
    }

    private static final String THREE = "stout 20 3;plain 5 9;child 0 1;rota 0 1;";
    private static final String REST = " seen 0 images 0 tape 0 sheet -4 torn 0";

    private static void hoursByHand() {
        BarrowGrief x = Due.told(THREE);
        Due.due("hours(0)", x.hours(0), 0);
        Due.due("hours(1)", x.hours(1), 1);
        Due.same("hour 0", Due.state(x), "1:13/3 0:7/9 2:1/1 load 3 of 30 hour 1 rota 0 1" + REST);
        Due.due("hours(1)", x.hours(1), 1);
        Due.same("hour 1", Due.state(x), "1:13/3 0:3/9 2:1/1 load 6 of 30 hour 2 rota 0 1" + REST);
        Due.due("hours(1)", x.hours(1), 1);
        Due.same("hour 2", Due.state(x), "1:8/3 0:7/9 2:4/1 load 3 of 30 hour 3 rota 0 1" + REST);
        BarrowGrief y = Due.told(THREE);
        Due.due("hours(3)", y.hours(3), 3);
        Due.same("hours(3)", Due.state(y), Due.state(x));
    }

    private static void hoursSpillRound() {
        BarrowGrief x = Due.told("plain 0 1;plain 0 1;widow 9 2;barrow 30 20;rota 2;");
        // He puts 5 of 9: 25, of which 6 / 2 * 2 + 1 = 7 are healed: 18, 16 beyond 2: 6 to 0, 5 to 1, 5 to 2.
        Due.due("hours(1)", x.hours(1), 7);
        Due.same("hour", Due.state(x), "0:6/1 0:5/1 3:9/2 load 2 of 30 hour 1 rota 2" + REST);
    }

    private static void hoursLoseBeyond99() {
        BarrowGrief x = Due.told("stout 99 1;plain 98 9;rota 0;");
        // 8 put, 1 healed, 6 spilt: 3 to the plain one, of which 2 are lost, 3 back to the stout one.
        Due.due("runs(1, 2)", x.runs(1, 2), 6);
        Due.due("runs(1, 0)", x.runs(1, 0), 94 + 99 + 1);
        Due.due("hours(1)", x.hours(1), 1);
        Due.same("hour", Due.state(x), "1:94/1 0:99/9 load 1 of 30 hour 1 rota 0" + REST);
    }

    private static void hoursPutWhatTheBarrowTakes() {
        BarrowGrief x = Due.told("child 9 99;barrow 11 10;rota 0;");
        Due.due("hours(1)", x.hours(1), 3);
        Due.same("one fits", Due.state(x), "2:8/99 load 8 of 11 hour 1 rota 0" + REST);
        x.load(11);
        Due.due("hours(1) at 11", x.hours(1), 3);
        Due.same("none fits", Due.state(x), "2:8/99 load 8 of 11 hour 2 rota 0" + REST);
        x.load(50);
        Due.due("hours(1) at 50", x.hours(1), 13);
        Due.same("too much is in", Due.state(x), "2:8/99 load 37 of 11 hour 3 rota 0" + REST);
        x.load(0);
        x.alter(0, 1, 1);
        Due.due("hours(1) of 1", x.hours(1), 1);
        Due.same("he has 1", Due.state(x), "2:0/99 load 0 of 11 hour 4 rota 0" + REST);
        Due.due("hours(1) of 0", x.hours(1), 0);
        Due.same("he has none", Due.state(x), "2:0/99 load 0 of 11 hour 5 rota 0" + REST);
    }

    private static void hoursWithoutTurns() {
        BarrowGrief x = Due.told("plain 9 1;barrow 9 9;");
        Due.due("hours(7)", x.hours(7), 0);
        Due.same("hours(7)", Due.state(x), "0:9/1 load 9 of 9 hour 7 rota" + REST);
        Due.due("hours(30) of nobody", new BarrowGrief().hours(30), 0);
    }

    private static void hoursAtTheEdges() {
        BarrowGrief x = Due.told("plain 9 5;");
        Due.due("hours(-1)", x.hours(-1), -1);
        Due.due("hours(31)", x.hours(31), -1);
        for (int i = 0; i < 33; i++) {
            x.hours(30);
        }
        Due.due("rule(1)", x.rule(1), 990);
        Due.due("hours(10)", x.hours(10), -3);
        Due.due("hours(31)", x.hours(31), -1);
        Due.due("hours(9)", x.hours(9), 0);
        Due.due("hours(1)", x.hours(1), -3);
        Due.due("hours(0)", x.hours(0), 0);
        Due.due("rule(1)", x.rule(1), 999);
        x.rota(0);
        Due.due("runs(2, 1) at the last hour", x.runs(2, 1), 2);
        Due.due("rule(1)", x.rule(1), 999);
    }

    private static void runsByHand() {
        BarrowGrief x = Due.told(THREE);
        String before = Due.state(x);
        int[][] due = {{25, 0, 0, -4, 0}, {24, 1, 4, 1, 3}, {23, 2, 4, 1, 6}, {22, 3, 14, 1, 6}};
        for (int n = 0; n < due.length; n++) {
            for (int what = 0; what < 5; what++) {
                Due.due("runs(" + n + ", " + what + ")", x.runs(n, what), due[n][what]);
            }
        }
        Due.same("runs", Due.state(x), before);
        Due.due("runs(-1, 0)", x.runs(-1, 0), -1);
        Due.due("runs(61, 0)", x.runs(61, 0), -1);
        Due.due("runs(0, 5)", x.runs(0, 5), -1);
        Due.due("runs(0, -1)", x.runs(0, -1), -1);
        BarrowGrief y = Due.told("plain 8 5;plain 8 5;barrow 30 3;rota 0 1;");
        // 4 put on 3: 7, 1 healed, 6: 1 is spilt in the first hour; with a load of 0 first in the second.
        Due.due("runs(1, 3)", y.runs(1, 3), 1);
        y.load(0);
        Due.due("runs(1, 3) from 0", y.runs(1, 3), -4);
        Due.due("runs(60, 3) from 0", y.runs(60, 3), 2);
        y.load(77);
        Due.due("runs(9, 4) now too", y.runs(9, 4), 77);
        Due.due("runs(60, 0) of nobody", new BarrowGrief().runs(60, 0), 0);
    }

    private static void aheadUnderLight() {
        BarrowGrief x = Due.told(THREE);
        String before = Due.state(x);
        int[][] due = {{20, 5, 0}, {13, 7, 1}, {13, 3, 1}, {8, 7, 4}};
        for (int n = 0; n < due.length; n++) {
            for (int p = 0; p < 3; p++) {
                Due.due("ahead(" + p + ", " + n + ")", x.ahead(p, n), due[n][p]);
            }
        }
        Due.due("ahead(3, 0)", x.ahead(3, 0), -1);
        Due.due("ahead(-1, 0)", x.ahead(-1, 0), -1);
        Due.due("ahead(0, -1)", x.ahead(0, -1), -1);
        Due.due("ahead(0, 61)", x.ahead(0, 61), -1);
        Due.due("under(25)", x.under(25), 0);
        Due.due("under(24)", x.under(24), 1);
        Due.due("under(22)", x.under(22), 3);
        Due.due("under(999)", x.under(999), 0);
        Due.due("under(0) of nobody", new BarrowGrief().under(0), 0);
        Due.due("under(1000)", x.under(1000), -1);
        Due.due("under(-1)", x.under(-1), -1);
        Due.due("light(2)", x.light(2), 0);
        Due.due("light(3)", x.light(3), -1);
        Due.due("light(-1)", x.light(-1), -1);
        Due.same("what is asked", Due.state(x), before);
        BarrowGrief y = Due.told("plain 8 99;plain 1 1;barrow 99 3;rota 0 0 0;");
        // A load of 3 is never healed by a plain one.
        Due.due("light(0)", y.light(0), 2);
        Due.due("light(1)", y.light(1), -4);
        Due.due("under(3)", y.under(3), -4);
        Due.due("under(4)", y.under(4) > 0 ? 1 : 0, 1);
        sixtyHours();
    }

    /** A child alone who heals just 1 in each hour, so that the 60th hour is met exactly. */
    private static void sixtyHours() {
        BarrowGrief x = Due.told("child 99 99;barrow 2 0;rota 0;");
        // 2 are put first, 1 in each hour behind: of 2 that are in, 1 is healed.
        Due.due("runs(1, 0)", x.runs(1, 0), 99 - 1);
        Due.due("runs(2, 0)", x.runs(2, 0), 99 - 2);
        Due.due("under(39)", x.under(39), 60);
        Due.due("under(38)", x.under(38), -4);
        x.alter(0, 1, 60);
        Due.due("light(0) of 60", x.light(0), 59);
        x.alter(0, 1, 61);
        Due.due("light(0) of 61", x.light(0), 60);
        x.alter(0, 1, 62);
        Due.due("light(0) of 62", x.light(0), -4);
    }
}
