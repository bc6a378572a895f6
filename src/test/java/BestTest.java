/** Promises 19 to 25: what is best. */
public final class BestTest {
    public static void main(String[] args) {
        orders();
        extras();
        spares();
        swaps();
        mosts();
        needs();
        kindsOfOne();
        Due.finish();
    }

    private static void orders() {
        BarrowGrief x = Due.told("plain 0 9;plain 0 9;plain 0 9;rota 2 0 1;");
        Due.due("order(0)", x.order(0), 0);
        Due.due("order(10), all are alike", x.order(10), 0);
        Due.due("order(11), all are alike", x.order(11), 1);
        Due.due("order(12), all are alike", x.order(12), 2);
        Due.due("order(13)", x.order(13), -4);
        Due.due("order(14)", x.order(14), -4);
        int[] bad = {-1, 1, 9, 15, Integer.MIN_VALUE, Integer.MAX_VALUE};
        for (int what : bad) {
            Due.due("order(" + what + ")", x.order(what), -1);
        }
        x.rota(1);
        x.rota(0);
        Due.due("order(14) of 5", x.order(14), 2);
        Due.due("order(11) of 5", x.order(11), 0);
        x.rota(0);
        Due.due("order(0) of 6", x.order(0), -2);
        Due.due("order(14) of 6", x.order(14), -2);
        Due.due("order(15) of 6", x.order(15), -1);
        x.cut(0);
        x.load(7);
        Due.due("order(0) of none", x.order(0), 7);
        Due.due("order(10) of none", x.order(10), -4);
        Due.due("order(0) of nobody", new BarrowGrief().order(0), 0);
        bestOrderIsNotTheFirst();
        bestOrderIsTheLast();
    }

    /**
     * The plain one has nothing and heals nothing of 3 or less; the child puts 2 and heals 1, 1, 2, 2, 2. As the last of
     * five it has 4 hours of 24, else 5.
     */
    private static void bestOrderIsNotTheFirst() {
        BarrowGrief x = Due.told("plain 0 99;child 20 99;rota 0 0 0 0 1;");
        String before = Due.state(x);
        Due.due("runs(24, 0)", x.runs(24, 0), 14);
        Due.due("order(0)", x.order(0), 12);
        int[] row = {0, 0, 0, 1, 0};
        for (int i = 0; i < row.length; i++) {
            Due.due("order(" + (10 + i) + ")", x.order(10 + i), row[i]);
        }
        Due.same("order", Due.state(x), before);
        x.hours(1);
        // From HOUR 1 on the last of five has 5 hours of 24, and the first has 4.
        Due.due("order(0) from hour 1", x.order(0), 12);
        Due.due("order(14) from hour 1", x.order(14), 1);
    }

    /** Each of the 120 orders is laid down and run by itself: that of 4 3 2 1 0 is the only best. */
    private static void bestOrderIsTheLast() {
        String people = "stout 4 17;plain 20 6;child 25 4;widow 9 6;widow 34 29;rota";
        BarrowGrief x = Due.told(people + " 0 1 2 3 4;");
        int least = x.order(0);
        for (int i = 0; i < 5; i++) {
            Due.due("order(" + (10 + i) + ")", x.order(10 + i), 4 - i);
        }
        int tried = 0;
        int asGood = 0;
        for (int code = 0; code < 3125; code++) {
            int[] row = {code / 625, code / 125 % 5, code / 25 % 5, code / 5 % 5, code % 5};
            StringBuilder rota = new StringBuilder();
            int who = 0;
            for (int p : row) {
                rota.append(' ').append(p);
                who |= 1 << p;
            }
            if (who == 31) {
                tried++;
                asGood += Due.told(people + rota + ";").runs(24, 0) <= least ? 1 : 0;
            }
        }
        Due.due("orders", tried, 120);
        Due.due("orders that are as good", asGood, 1);
        Due.due("runs(24, 0) of 4 3 2 1 0", Due.told(people + " 4 3 2 1 0;").runs(24, 0), least);
    }

    private static void extras() {
        BarrowGrief x = Due.told("stout 20 99;plain 8 99;child 8 99;barrow 30 8;");
        // Of 16 the stout one heals 2, of 12 the plain one 3, of 10 the child 3.
        String before = Due.state(x);
        Due.due("extra(1, 0)", x.extra(1, 0), 1);
        Due.due("extra(1, 1)", x.extra(1, 1), 41);
        Due.due("extra(0, 0)", x.extra(0, 0), 0);
        Due.due("extra(0, 1)", x.extra(0, 1), 44);
        Due.due("extra(-1, 0)", x.extra(-1, 0), -1);
        Due.due("extra(61, 0)", x.extra(61, 0), -1);
        Due.due("extra(0, 2)", x.extra(0, 2), -1);
        Due.due("extra(0, -1)", x.extra(0, -1), -1);
        Due.same("extra", Due.state(x), before);
        x.rota(0);
        // Behind all others: the first hour is the stout one's; then of 14 + 4 the plain one heals 4, of 14 + 2 the child 5.
        Due.due("extra(2, 0)", x.extra(2, 0), 2);
        Due.due("extra(2, 1)", x.extra(2, 1), 44 - 2 - 5);
        for (int i = 1; i < 8; i++) {
            x.rota(0);
        }
        Due.due("extra(1, 0) of 8", x.extra(1, 0), -3);
        Due.due("extra(61, 0) of 8", x.extra(61, 0), -1);
        BarrowGrief nobody = new BarrowGrief();
        Due.due("extra(1, 0) of nobody", nobody.extra(1, 0), -4);
        Due.due("extra(1, 1) of nobody", nobody.extra(1, 1), -4);
        Due.due("extra(1, 2) of nobody", nobody.extra(1, 2), -1);
    }

    private static void spares() {
        BarrowGrief x = Due.told("stout 20 1;plain 4 9;rota 0 1;");
        Due.due("spare(1, 0)", x.spare(1, 0), 0);
        Due.due("spare(1, 1)", x.spare(1, 1), 0);
        Due.due("spare(0, 0)", x.spare(0, 0), -4);
        Due.due("spare(0, 1)", x.spare(0, 1), -4);
        Due.due("spare(-1, 0)", x.spare(-1, 0), -1);
        Due.due("spare(61, 0)", x.spare(61, 0), -1);
        Due.due("spare(1, 2)", x.spare(1, 2), -1);
        Due.due("spare(1, -1)", x.spare(1, -1), -1);
        BarrowGrief y = Due.told("stout 20 1;stout 20 3;rota 0 1;");
        String before = Due.state(y);
        // 7 are left behind the first hour: 6 beyond the one, 4 beyond the other.
        Due.due("spare(1, 0)", y.spare(1, 0), 0);
        Due.due("spare(1, 1)", y.spare(1, 1), 4);
        Due.same("spare", Due.state(y), before);
        BarrowGrief z = Due.told("stout 20 1;stout 20 1;rota 0 1;");
        Due.due("spare(1, 0), all are alike", z.spare(1, 0), -4);
        z.cut(0);
        Due.due("spare(9, 0) of none", z.spare(9, 0), -4);
        BarrowGrief t = Due.told("stout 20 1;plain 4 9;plain 4 9;rota 1 0 2;");
        // The stout one spills 9 in the second hour; 6 in the first, if TURN 0 is left out.
        Due.due("runs(2, 2)", t.runs(2, 2), 9);
        Due.due("spare(2, 0)", t.spare(2, 0), 1);
        Due.due("spare(2, 1)", t.spare(2, 1), 0);
        x.cut(1);
        Due.due("spare(3, 0) of one", x.spare(3, 0), 0);
        Due.due("spare(3, 1) of one", x.spare(3, 1), 0);
    }

    private static void swaps() {
        BarrowGrief x = Due.told("stout 20 99;plain 8 99;barrow 30 8;rota 0 1;");
        String before = Due.state(x);
        Due.due("swap(1, 0)", x.swap(1, 0), 1);
        Due.due("swap(1, 1)", x.swap(1, 1), 33);
        Due.due("swap(0, 0)", x.swap(0, 0), -4);
        Due.due("swap(0, 1)", x.swap(0, 1), -4);
        Due.due("swap(-1, 0)", x.swap(-1, 0), -1);
        Due.due("swap(61, 0)", x.swap(61, 0), -1);
        Due.due("swap(1, 2)", x.swap(1, 2), -1);
        Due.due("swap(1, -1)", x.swap(1, -1), -1);
        Due.same("swap", Due.state(x), before);
        x.hours(1);
        Due.due("swap(1, 0), the plain one has it", x.swap(1, 0), -4);
        Due.due("swap(1, 1), the plain one has it", x.swap(1, 1), -4);
        BarrowGrief y = Due.told("stout 20 99;plain 8 99;barrow 30 8;rota 0 0 0 1 1;");
        Due.due("swap(1, 0) of 5", y.swap(1, 0), 3);
        y.hours(1);
        // Now it is the hour of TURN 1, with 14 and 8 or 4: of 22 the stout one heals 2, of 18 the plain one 4.
        Due.due("swap(1, 0) of TURN 1", y.swap(1, 0), 13);
        Due.due("swap(1, 1) of TURN 1", y.swap(1, 1), 36 - 2 - 4);
        y.cut(1);
        Due.due("swap(1, 0) of one", y.swap(1, 0), -4);
        y.cut(0);
        Due.due("swap(1, 0) of none", y.swap(1, 0), -4);
    }

    private static void mosts() {
        BarrowGrief x = Due.told("plain 9 2;rota 0;");
        Due.due("most(0)", x.most(0), 99);
        Due.due("most(1)", x.most(1), 2);
        Due.due("most(60)", x.most(60), 2);
        Due.due("rule(3)", x.rule(3), 30);
        Due.due("most(-1)", x.most(-1), -1);
        Due.due("most(61)", x.most(61), -1);
        x.load(9);
        Due.due("most(1), too much is in", x.most(1), -4);
        x.load(0);
        x.alter(0, 2, 3);
        Due.due("most(1) who bears 3", x.most(1), 99);
        x.alter(0, 2, 1);
        Due.due("most(1) who bears 1", x.most(1), 1);
        Due.due("most(60) of nobody", new BarrowGrief().most(60), 99);
    }

    private static void needs() {
        BarrowGrief x = Due.told("plain 9 2;plain 0 1;rota 0;");
        Due.due("need(0, 0)", x.need(0, 0), 1);
        Due.due("need(0, 1)", x.need(0, 1), 3);
        // 3, then 7 less 1, then 6 and 1 less 1.
        Due.due("need(0, 2)", x.need(0, 2), 6);
        Due.due("need(1, 0)", x.need(1, 0), 1);
        Due.due("need(1, 1), another spills", x.need(1, 1), -4);
        Due.due("one(0, 2)", x.one(0, 2), 2);
        Due.due("need(2, 1)", x.need(2, 1), -1);
        Due.due("need(-1, 1)", x.need(-1, 1), -1);
        Due.due("need(0, -1)", x.need(0, -1), -1);
        Due.due("need(0, 61)", x.need(0, 61), -1);
        x.load(99);
        Due.due("need(0, 1) of 99", x.need(0, 1), 75);
        x.alter(0, 0, 1);
        Due.due("need(0, 1) of 99, stout", x.need(0, 1), 87);
    }

    private static void kindsOfOne() {
        BarrowGrief x = Due.told("stout 8 99;barrow 30 8;rota 0;");
        String before = Due.state(x);
        Due.due("kind(0, 1, 0)", x.kind(0, 1, 0), 0);
        Due.due("kind(0, 1, 1)", x.kind(0, 1, 1), 13);
        Due.due("kind(0, 0, 0)", x.kind(0, 0, 0), 0);
        Due.due("kind(0, 0, 1)", x.kind(0, 0, 1), 16);
        Due.same("kind", Due.state(x), before);
        x.load(3);
        Due.due("kind(0, 1, 0) of 3", x.kind(0, 1, 0), 3);
        Due.due("kind(0, 1, 1) of 3", x.kind(0, 1, 1), 8);
        x.alter(0, 1, 0);
        Due.due("kind(0, 1, 0) of 3 and none", x.kind(0, 1, 0), 2);
        Due.due("kind(0, 1, 1) of 3 and none", x.kind(0, 1, 1), 2);
        Due.due("kind(1, 1, 0)", x.kind(1, 1, 0), -1);
        Due.due("kind(-1, 1, 0)", x.kind(-1, 1, 0), -1);
        Due.due("kind(0, -1, 0)", x.kind(0, -1, 0), -1);
        Due.due("kind(0, 61, 0)", x.kind(0, 61, 0), -1);
        Due.due("kind(0, 1, 2)", x.kind(0, 1, 2), -1);
        Due.due("kind(0, 1, -1)", x.kind(0, 1, -1), -1);
    }
}
