/** Promises 1 to 8: a new object, the tape, the text with its faults, what was told. */
public final class TextTest {
    private static final int[] EDGES = {Integer.MIN_VALUE, -1, Integer.MAX_VALUE};

    public static void main(String[] args) {
        newObject();
        tapeTakes160();
        tapeIsCut();
        textsThatAreTaken();
        textsWithFaults();
        faultsMetFirst();
        textsAtTheEndOfTheTape();
        aTextTellsAll();
        aFaultChangesNothing();
        rules();
        ones();
        turns();
        Due.finish();
    }

    private static void newObject() {
        Due.due("BAD", BarrowGrief.BAD, -1);
        Due.due("STATE", BarrowGrief.STATE, -2);
        Due.due("FULL", BarrowGrief.FULL, -3);
        Due.due("NONE", BarrowGrief.NONE, -4);
        BarrowGrief x = new BarrowGrief();
        Due.same("new", Due.state(x), "load 0 of 30 hour 0 rota seen 0 images 0 tape 0 sheet -4 torn 0");
        Due.due("new fault()", x.fault(), 0);
        for (int k = 0; k < 4; k++) {
            Due.due("new lay(" + k + ", 0, 0)", x.lay(k, 0, 0), -11);
        }
    }

    private static void tapeTakes160() {
        BarrowGrief x = new BarrowGrief();
        Due.due("feed(-1)", x.feed(-1), -1);
        Due.due("feed(128)", x.feed(128), -1);
        Due.due("feed(0)", x.feed(0), 1);
        Due.due("feed(127)", x.feed(127), 2);
        for (int i = 3; i <= 160; i++) {
            Due.due("feed(32) the " + i + "th", x.feed(32), i);
        }
        Due.due("feed(32) the 161st", x.feed(32), -3);
        Due.due("feed(128) the 161st", x.feed(128), -1);
        Due.due("count(2)", x.count(2), 160);
        Due.due("text()", x.text(), -10);
        Due.due("count(2) behind text()", x.count(2), 0);
    }

    private static void tapeIsCut() {
        BarrowGrief x = new BarrowGrief();
        Due.due("end(0)", x.end(0), 0);
        Due.due("end(1)", x.end(1), -1);
        Due.feed(x, "plain 1 1;x");
        Due.due("end(-1)", x.end(-1), -1);
        Due.due("end(12)", x.end(12), -1);
        Due.due("end(11)", x.end(11), 11);
        Due.due("end(10)", x.end(10), 11);
        Due.due("count(2)", x.count(2), 10);
        Due.due("text()", x.text(), 1);
        Due.feed(x, "abc");
        Due.due("end(0) of 3", x.end(0), 3);
        Due.due("text() of nothing", x.text(), 0);
    }

    private static void taken(String text, int lines, String left) {
        BarrowGrief x = new BarrowGrief();
        Due.feed(x, text);
        Due.due("text() of \"" + text + "\"", x.text(), lines);
        Due.due("fault() of \"" + text + "\"", x.fault(), 0);
        Due.same("text() of \"" + text + "\"", Due.state(x), left + " seen 0 images 0 tape 0 sheet -4 torn 0");
    }

    private static void textsThatAreTaken() {
        taken("", 0, "load 0 of 30 hour 0 rota");
        taken("     ", 0, "load 0 of 30 hour 0 rota");
        taken("plain 8 5;", 1, "0:8/5 load 0 of 30 hour 0 rota");
        taken("plain8 5;", 1, "0:8/5 load 0 of 30 hour 0 rota");
        taken("  stout   08  05 ;   ", 1, "1:8/5 load 0 of 30 hour 0 rota");
        taken("child 0 1;widow 99 99;", 2, "2:0/1 3:99/99 load 0 of 30 hour 0 rota");
        taken("barrow 1 0;", 1, "load 0 of 1 hour 0 rota");
        taken("barrow 99 99;", 1, "load 99 of 99 hour 0 rota");
        taken("rota;", 1, "load 0 of 30 hour 0 rota");
        taken("rota 1 0;plain 1 1;plain 2 2;", 3, "0:1/1 0:2/2 load 0 of 30 hour 0 rota 1 0");
        taken("plain 1 1;rota 0 0 0 0 0 0 0 0;", 2, "0:1/1 load 0 of 30 hour 0 rota 0 0 0 0 0 0 0 0");
        taken("plain 1 1;child 2 2;stout 3 3;widow 4 4;plain 5 5;rota 4;", 6,
            "0:1/1 2:2/2 1:3/3 3:4/4 0:5/5 load 0 of 30 hour 0 rota 4");
    }

    private static void faulty(String text, int fault, int place) {
        BarrowGrief x = new BarrowGrief();
        Due.feed(x, text);
        Due.due("text() of \"" + text + "\"", x.text(), -10 - place);
        Due.due("fault() of \"" + text + "\"", x.fault(), fault);
        Due.due("count(2) behind \"" + text + "\"", x.count(2), 0);
    }

    private static void textsWithFaults() {
        faulty("Plain 1 1;", 1, 0);
        faulty("\t", 1, 0);
        faulty("plain A", 1, 6);
        faulty("plain 1 1,", 1, 9);
        faulty("plain -1 1;", 1, 6);
        faulty("plain 100 1;", 1, 6);
        faulty("plain 1 000;", 1, 8);
        faulty("plain 12345678901234567890 1;", 1, 6);
        faulty("rota 000;", 1, 5);
        faulty("plain 1 1;{", 1, 10);
        faulty("`", 1, 0);
        faulty("plain /", 1, 6);
        faulty("plain :", 1, 6);
        faulty("plain <", 1, 6);
        faulty("plainer 1 1;", 2, 0);
        faulty("plai 1 1;", 2, 0);
        faulty("xlain 1 1;", 2, 0);
        faulty("plainz 1 1;", 2, 0);
        faulty("plaina 1 1;", 2, 0);
        faulty("a", 2, 0);
        faulty("z", 2, 0);
        faulty("plain1 1;barrows", 2, 9);
        faulty("  rot", 2, 2);
        faulty("1 1;", 2, 0);
        faulty(";", 2, 0);
        faulty("plain 1 1;;", 2, 10);
        faulty("plain", 2, 5);
        faulty("plain  ", 2, 7);
        faulty("plain 1", 2, 7);
        faulty("plain 1 1", 2, 9);
        faulty("plain 1 1 1;", 2, 10);
        faulty("plain 1;", 2, 7);
        faulty("plain;", 2, 5);
        faulty("plain plain", 2, 6);
        faulty("barrow 1 x", 2, 9);
        faulty("rota", 2, 4);
        faulty("rota 0 x", 2, 7);
        faulty("plain 1 0;", 3, 8);
        faulty("plain 1 00;", 3, 8);
        faulty("barrow 0 0;", 3, 7);
        faulty("rota 5;", 3, 5);
        faulty("rota 0 99;", 3, 7);
        faulty("barrow 1 1;barrow 1 1;", 4, 11);
        faulty("rota;rota;", 4, 5);
        faulty("plain 1 1;plain 1 1;plain 1 1;plain 1 1;plain 1 1;widow 1 1;", 5, 50);
        faulty("plain 1 1;rota 0 0 0 0 0 0 0 0 0;", 5, 31);
        faulty("rota 0;", 6, 7);
        faulty("rota 1;plain 1 1;", 6, 17);
        faulty("plain 1 1;rota 0 4;  ", 6, 21);
    }

    private static void faultsMetFirst() {
        faulty("plain 1 0A", 3, 8);
        faulty("plain 1 A", 1, 8);
        faulty("xA", 2, 0);
        faulty("rota 7A", 3, 5);
        faulty("barrow 1 1;barrow A", 4, 11);
        faulty("rota;rota 9", 4, 5);
        faulty("rota 0;A", 1, 7);
        faulty("rota 0;plain", 2, 12);
        faulty("plain 1 1;plain 1 1;plain 1 1;plain 1 1;plain 1 1;plain 100 A", 5, 50);
        faulty("rota 0 0 0 0 0 0 0 0 7;", 5, 21);
        faulty("rota 0 0 0 0 0 0 0 0 100;", 1, 21);
        faulty("rota 0 0 0 0 0 0 0 0 x", 2, 21);
    }

    private static void textsAtTheEndOfTheTape() {
        faulty("a".repeat(160), 2, 0);
        faulty("7".repeat(160), 1, 0);
        faulty("rota" + " ".repeat(156), 2, 160);
        faulty(" ".repeat(156) + "rota", 2, 160);
        faulty(" ".repeat(152) + "rota 0 ;", 6, 160);
        taken(" ".repeat(150) + "plain 1 1;", 1, "0:1/1 load 0 of 30 hour 0 rota");
        // What was cut off, or told earlier, is not read behind the end.
        BarrowGrief x = new BarrowGrief();
        Due.feed(x, "plainx");
        x.end(5);
        Due.due("text() of \"plain\"", x.text(), -15);
        Due.feed(x, "plain 123");
        x.end(8);
        Due.due("text() of \"plain 12\"", x.text(), -18);
        Due.due("fault() of \"plain 12\"", x.fault(), 2);
        Due.feed(x, "plain 1 1;");
        x.text();
        Due.feed(x, "plain 1 1");
        Due.due("text() of \"plain 1 1\"", x.text(), -19);
    }

    private static void aTextTellsAll() {
        BarrowGrief x = Due.told("plain 8 5;barrow 12 7;rota 0 0;");
        x.hours(3);
        x.see(0, 0, 1);
        x.keep(0);
        x.keep(1);
        x.sheet(0, 1, 3);
        x.runs(9, 0);
        Due.feed(x, "widow 3 4;");
        Due.due("text()", x.text(), 1);
        Due.same("text()", Due.state(x), "3:3/4 load 0 of 30 hour 0 rota seen 0 images 0 tape 0 sheet 3 torn 0");
        Due.due("back(0) behind text()", x.back(0), -2);
        Due.due("back(1) behind text()", x.back(1), -2);
    }

    private static void aFaultChangesNothing() {
        BarrowGrief x = Due.told("plain 8 5;barrow 12 7;rota 0 0;");
        x.hours(1);
        x.see(0, 0, 1);
        x.keep(1);
        String before = Due.state(x);
        Due.feed(x, "stout 1 1;barrow 3 3;rota 0 0 0 3;");
        Due.due("text()", x.text(), -44);
        Due.due("fault()", x.fault(), 6);
        Due.same("text() with a fault", Due.state(x), before);
        Due.due("text() of nothing", x.text(), 0);
        Due.due("fault()", x.fault(), 0);
    }

    private static void rules() {
        BarrowGrief x = Due.told("plain 8 5;child 3 9;barrow 12 1;rota 0 1 1;");
        int[] due = {2, 0, 1, 12, 12, 3, 0};
        for (int what = 0; what < due.length; what++) {
            Due.due("rule(" + what + ")", x.rule(what), due[what]);
        }
        x.hours(1);
        Due.due("rule(1)", x.rule(1), 1);
        Due.due("rule(6)", x.rule(6), 1);
        x.hours(2);
        Due.due("rule(6)", x.rule(6), 0);
        x.cut(0);
        Due.due("rule(6) with no turn", x.rule(6), -4);
        Due.due("rule(7)", x.rule(7), -1);
        for (int edge : EDGES) {
            Due.due("rule(" + edge + ")", x.rule(edge), -1);
        }
    }

    private static void ones() {
        BarrowGrief x = Due.told("plain 9 5;stout 8 6;child 7 7;widow 6 8;rota 3 0 3;");
        int[][] due = {{0, 9, 5, 4, 1, 0}, {1, 8, 6, 8, 0, 0}, {2, 7, 7, 2, 0, 0}, {3, 6, 8, 5, 2, 0}};
        for (int p = 0; p < due.length; p++) {
            for (int what = 0; what < due[p].length; what++) {
                Due.due("one(" + p + ", " + what + ")", x.one(p, what), due[p][what]);
            }
        }
        int[][] heals = {{0, 0, 0, 0, 0}, {1, 0, 0, 1, 1}, {3, 0, 0, 1, 1}, {4, 1, 0, 2, 1}, {7, 1, 0, 2, 1},
            {8, 2, 1, 3, 3}, {12, 3, 1, 4, 3}, {16, 4, 2, 5, 5}, {99, 24, 12, 25, 25}};
        for (int[] row : heals) {
            x.load(row[0]);
            for (int p = 0; p < 4; p++) {
                Due.due("one(" + p + ", 5) of " + row[0], x.one(p, 5), row[p + 1]);
            }
        }
        Due.due("one(4, 0)", x.one(4, 0), -1);
        Due.due("one(0, 6)", x.one(0, 6), -1);
        for (int edge : EDGES) {
            Due.due("one(" + edge + ", 0)", x.one(edge, 0), -1);
            Due.due("one(0, " + edge + ")", x.one(0, edge), -1);
        }
        Due.due("one(0, 0) of nobody", new BarrowGrief().one(0, 0), -1);
    }

    private static void turns() {
        BarrowGrief x = Due.told("plain 9 5;stout 8 6;rota 1 0 1;");
        int[] due = {1, 0, 1, -1};
        for (int i = 0; i < due.length; i++) {
            Due.due("turn(" + i + ")", x.turn(i), due[i]);
        }
        for (int edge : EDGES) {
            Due.due("turn(" + edge + ")", x.turn(edge), -1);
        }
        x.cut(1);
        Due.due("turn(1) behind cut(1)", x.turn(1), -1);
    }
}
