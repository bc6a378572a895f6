/** Promises 34 to 40: images, sheets, counts. */
public final class ImagesSheetsTest {
    private static final String TWO = "plain 9 9;child 5 5;rota 0 1;";

    public static void main(String[] args) {
        images();
        imagesHoldAll();
        imagesHoldWhatWasSeen();
        sheetsAreMade();
        cellsAreLaid();
        sheetsAreRead();
        lanesCutValues();
        faultsOfTheMachine();
        noTimes();
        refusedReads();
        counts();
        Due.finish();
    }

    private static void images() {
        BarrowGrief x = Due.told(TWO);
        Due.due("keep(-1)", x.keep(-1), -1);
        Due.due("keep(2)", x.keep(2), -1);
        Due.due("back(-1)", x.back(-1), -1);
        Due.due("back(2)", x.back(2), -1);
        Due.due("back(0)", x.back(0), -2);
        Due.due("back(1)", x.back(1), -2);
        Due.due("keep(0)", x.keep(0), 0);
        Due.due("count(1)", x.count(1), 1);
        Due.due("keep(0) again", x.keep(0), 1);
        Due.due("back(1)", x.back(1), -2);
        x.hours(4);
        Due.due("keep(1)", x.keep(1), 0);
        Due.due("count(1)", x.count(1), 2);
        Due.due("back(0)", x.back(0), 0);
        Due.due("back(1)", x.back(1), 4);
        Due.due("rule(1)", x.rule(1), 4);
        Due.due("back(1) again", x.back(1), 4);
    }

    private static void imagesHoldAll() {
        BarrowGrief x = Due.told(TWO);
        x.see(1, 0, 5);
        x.hours(3);
        x.keep(1);
        String before = Due.state(x);
        int kindsBefore = x.kinds(0);
        x.hours(5);
        x.alter(0, 0, 3);
        x.alter(1, 1, 77);
        x.alter(1, 2, 66);
        x.takes(5);
        x.load(44);
        x.cut(0);
        x.rota(1);
        x.forget(0);
        x.see(0, 0, 1);
        x.see(0, 0, 2);
        x.back(1);
        Due.same("back(1)", Due.state(x), before);
        Due.due("kinds(0) behind back(1)", x.kinds(0), kindsBefore);
        x.hours(1);
        x.alter(0, 2, 1);
        x.back(1);
        Due.same("back(1), the image is its own", Due.state(x), before);
    }

    private static void imagesHoldWhatWasSeen() {
        BarrowGrief x = Due.told(TWO);
        x.see(1, 0, 5);
        x.keep(0);
        Due.due("kinds(0)", x.kinds(0), 1);
        x.forget(0);
        x.see(0, 1, 6);
        Due.due("kinds(0) as seen later", x.kinds(0), 0);
        x.back(0);
        Due.due("kinds(0) behind back(0)", x.kinds(0), 1);
    }

    private static void sheetsAreMade() {
        BarrowGrief x = new BarrowGrief();
        int[][] bad = {{-1, 0, 1}, {4, 0, 1}, {0, -1, 1}, {0, 3, 1}, {0, 0, 41}, {4, 0, -1}, {0, 3, -1}};
        for (int[] b : bad) {
            Due.due("sheet(" + b[0] + ", " + b[1] + ", " + b[2] + ")", x.sheet(b[0], b[1], b[2]), -1);
        }
        Due.due("sheet(0, 0, -1)", x.sheet(0, 0, -1), -14);
        Due.due("sheet(0, 2, MIN)", x.sheet(0, 2, Integer.MIN_VALUE), -14);
        Due.due("count(3)", x.count(3), -4);
        Due.due("sheet(0, 0, 0)", x.sheet(0, 0, 0), 1);
        Due.due("count(3)", x.count(3), 0);
        Due.due("sheet(0, 2, 40)", x.sheet(0, 2, 40), 1);
        Due.due("count(3)", x.count(3), 40);
        Due.due("sheet(0, 0, -1)", x.sheet(0, 0, -1), -14);
        Due.due("count(3)", x.count(3), 40);
        Due.due("sheet(3, 1, 7)", x.sheet(3, 1, 7), 1);
        Due.due("lay(3, 6, 1)", x.lay(3, 6, 1), 1);
        Due.due("lay(3, 7, 1)", x.lay(3, 7, 1), -12);
    }

    private static void cellsAreLaid() {
        BarrowGrief x = new BarrowGrief();
        Due.due("lay(-1, 0, 0)", x.lay(-1, 0, 0), -1);
        Due.due("lay(4, 0, 0)", x.lay(4, 0, 0), -1);
        Due.due("lay(1, 0, 0)", x.lay(1, 0, 0), -11);
        Due.due("lay(1, -1, 0)", x.lay(1, -1, 0), -11);
        x.sheet(1, 0, 2);
        Due.due("lay(1, -1, 0)", x.lay(1, -1, 0), -12);
        Due.due("lay(1, 2, 0)", x.lay(1, 2, 0), -12);
        Due.due("lay(1, MIN, 0)", x.lay(1, Integer.MIN_VALUE, 0), -12);
        Due.due("lay(1, MAX, 0)", x.lay(1, Integer.MAX_VALUE, 0), -12);
        Due.due("lay(1, 1, MAX)", x.lay(1, 1, Integer.MAX_VALUE), 1);
        x.sheet(1, 0, 0);
        Due.due("lay(1, 0, 0) of no cells", x.lay(1, 0, 0), -12);
    }

    private static void lay(BarrowGrief x, int k, int... cells) {
        for (int i = 0; i < cells.length; i++) {
            Due.due("lay(" + k + ", " + i + ", " + cells[i] + ")", x.lay(k, i, cells[i]), 1);
        }
    }

    private static void griefs(String call, BarrowGrief x, int first, int second) {
        Due.due("one(0, 1) behind " + call, x.one(0, 1), first);
        Due.due("one(1, 1) behind " + call, x.one(1, 1), second);
    }

    private static void sheetsAreRead() {
        BarrowGrief x = Due.told(TWO);
        x.sheet(2, 2, 7);
        lay(x, 2, 9, 1, 33, 0, 44, 1, 55);
        Due.due("read(2, 2, 1, 2)", x.read(2, 2, 1, 2), 2);
        griefs("read(2, 2, 1, 2)", x, 44, 33);
        Due.due("torn()", x.torn(), 0);
        Due.due("read(2, 2, 1, 3)", x.read(2, 2, 1, 3), 3);
        griefs("read(2, 2, 1, 3), the later stays", x, 44, 55);
        Due.due("read(2, 2, 5, 1)", x.read(2, 2, 5, 1), 1);
        Due.due("read(2, 2, 1, 0)", x.read(2, 2, 1, 0), 0);
        Due.due("torn()", x.torn(), 0);
        x.sheet(2, 2, 40);
        Due.due("read(2, 2, 0, 20)", x.read(2, 2, 0, 20), 20);
        griefs("a new row of 0", x, 0, 55);
        int[][] bad = {{-1, 0, 0, 0}, {4, 0, 0, 0}, {0, -1, 0, 0}, {0, 3, 0, 0}, {0, 0, 0, -1}, {0, 0, 0, 21}};
        for (int[] b : bad) {
            Due.due("read(" + b[0] + ", " + b[1] + ", " + b[2] + ", " + b[3] + ")", x.read(b[0], b[1], b[2], b[3]), -1);
        }
    }

    private static void lanesCutValues() {
        BarrowGrief x = Due.told(TWO);
        x.sheet(0, 0, 2);
        lay(x, 0, 256 + 1, -200);
        Due.due("read of bytes", x.read(0, 0, 0, 1), 1);
        griefs("bytes", x, 9, 56);
        lay(x, 0, 0, 128);
        Due.due("read of the byte -128", x.read(0, 0, 0, 1), -20);
        x.sheet(1, 1, 2);
        lay(x, 1, 65536, 65536 * 3 + 71);
        Due.due("read of shorts", x.read(1, 1, 0, 1), 1);
        griefs("shorts", x, 71, 56);
        lay(x, 1, 0, 256 + 1);
        Due.due("read of the short 257", x.read(1, 1, 0, 1), -20);
        lay(x, 1, 0, 32768);
        Due.due("read of the short -32768", x.read(1, 1, 0, 1), -20);
        x.sheet(2, 2, 2);
        lay(x, 2, 1, 65536 + 1);
        Due.due("read of the int 65537", x.read(2, 2, 0, 1), -20);
        lay(x, 2, 65536, 1);
        Due.due("read of ONE 65536", x.read(2, 2, 0, 1), -20);
        griefs("what was refused", x, 71, 56);
    }

    private static void faultsOfTheMachine() {
        BarrowGrief x = Due.told(TWO);
        Due.due("read of nothing", x.read(0, 1, 0, 1), 0);
        Due.due("torn()", x.torn(), 1);
        x.sheet(0, 1, 5);
        lay(x, 0, 0, 11, 1, 22, 7);
        Due.due("read past the end", x.read(0, 1, 0, 3), 2);
        Due.due("torn()", x.torn(), 2);
        griefs("read past the end", x, 11, 22);
        Due.due("read of two", x.read(0, 1, 0, 2), 2);
        Due.due("torn()", x.torn(), 0);
        Due.due("read from -1", x.read(0, 1, -1, 1), 0);
        Due.due("torn()", x.torn(), 2);
        Due.due("read of none from -1", x.read(0, 1, -1, 0), 0);
        Due.due("torn()", x.torn(), 0);
        int[] far = {5, 4, -2, Integer.MAX_VALUE, Integer.MAX_VALUE - 1, Integer.MIN_VALUE};
        for (int f : far) {
            Due.due("read from " + f, x.read(0, 1, f, 20), 0);
            Due.due("torn()", x.torn(), 2);
        }
        Due.due("read as bytes", x.read(0, 0, 0, 1), 0);
        Due.due("torn()", x.torn(), 3);
        Due.due("read as ints", x.read(0, 2, -1, 1), 0);
        Due.due("torn()", x.torn(), 3);
        x.sheet(0, 1, 0);
        Due.due("read of no cells", x.read(0, 1, 0, 1), 0);
        Due.due("torn()", x.torn(), 2);
        griefs("all that", x, 11, 22);
    }

    /** What is read no time at all is not refused, whatever the lane, the sheet and the cell. */
    private static void noTimes() {
        BarrowGrief x = Due.told(TWO);
        for (int has = 0; has < 3; has++) {
            Due.due("sheet", x.sheet(has, has, has * 20), 1);
        }
        for (int k = 0; k < 4; k++) {
            for (int lane = 0; lane < 3; lane++) {
                for (int f : new int[] {0, -1, 40, Integer.MAX_VALUE}) {
                    String call = "read(" + k + ", " + lane + ", " + f + ", 0)";
                    Due.due("read of nothing", x.read(3, 0, 0, 1), 0);
                    Due.due("torn() ahead of " + call, x.torn(), 1);
                    Due.due(call, x.read(k, lane, f, 0), 0);
                    Due.due("torn() behind " + call, x.torn(), 0);
                }
            }
        }
        griefs("reads of none", x, 9, 5);
        for (int k = 0; k < 3; k++) {
            for (int lane = 0; lane < 3; lane++) {
                Due.due("read once", x.read(k, lane, 40, 1), 0);
                Due.due("torn() of SHEET " + k + " as of lane " + lane, x.torn(), lane == k ? 2 : 3);
            }
        }
    }

    private static void refusedReads() {
        BarrowGrief x = Due.told(TWO);
        x.sheet(0, 2, 7);
        lay(x, 0, 0, 1, 1, 2, 0, 100, 2);
        Due.due("read of 7 cells", x.read(0, 2, 2, 0), 0);
        Due.due("read(3, 2, 0, 1) of nothing", x.read(3, 2, 0, 1), 0);
        Due.due("the third is refused", x.read(0, 2, 0, 4), -22);
        griefs("a read that was refused", x, 9, 5);
        Due.due("torn() stays", x.torn(), 1);
        Due.due("BAD", x.read(0, 2, 0, 21), -1);
        Due.due("torn() stays", x.torn(), 1);
        lay(x, 0, 0, 1, 1, 2, 0, 3, 2);
        Due.due("the fourth is not whole", x.read(0, 2, 0, 4), 3);
        griefs("the fourth is not whole", x, 3, 2);
        Due.due("torn()", x.torn(), 2);
        lay(x, 0, 2, 1);
        Due.due("ONE 2", x.read(0, 2, 0, 4), -20);
        lay(x, 0, 0, 1, -1, 1);
        Due.due("ONE -1", x.read(0, 2, 0, 4), -21);
        lay(x, 0, 0, 1, 0, -1);
        Due.due("GRIEF -1", x.read(0, 2, 0, 4), -21);
        griefs("what was refused", x, 3, 2);
    }

    private static void counts() {
        BarrowGrief x = Due.told(TWO);
        x.see(0, 0, 9);
        x.keep(1);
        x.load(50);
        Due.feed(x, "abc");
        x.sheet(1, 0, 9);
        int[] due = {1, 1, 3, -4, 14, 14};
        for (int what = 0; what < due.length; what++) {
            Due.due("count(" + what + ")", x.count(what), due[what]);
        }
        x.alter(0, 2, 1);
        x.alter(1, 1, 99);
        x.sheet(0, 0, 9);
        Due.due("count(3)", x.count(3), 9);
        Due.due("count(4)", x.count(4), 108);
        Due.due("count(5)", x.count(5), 6);
        Due.due("count(6)", x.count(6), -1);
        Due.due("count(-1)", x.count(-1), -1);
        Due.due("count(4) of nobody", new BarrowGrief().count(4), 0);
        Due.due("count(5) of nobody", new BarrowGrief().count(5), 0);
    }
}
