import java.util.List;
import java.util.function.Supplier;

/** Promises 34 to 40 at their edges: images, sheets, counts. */
public final class ImagesSheetsEdgesTest {
    private static final int BAD = BarrowGrief.BAD, STATE = BarrowGrief.STATE, NONE = BarrowGrief.NONE;
    private static final int NULL = 1, INDEX = 2, CAST = 3, SIZE = 4;
    private static final int MIN = Edge.MIN, MAX = Edge.MAX;
    private static final int[] NO_SHEET = {MIN, -1, 4, MAX};
    private static final int[] NO_LANE = {MIN, -1, 3, MAX};
    private static final String TWO = "plain 9 9;child 5 5;rota 0 1;";

    public static void main(String[] args) {
        keeps();
        keepTakesThePlace();
        backs();
        backIsAllAsItWas();
        backIsAllThatWasSeen();
        backLeavesTheRest();
        imagesAndTexts();
        sheetBounds();
        sheetsBelow0();
        sheetIsANewRow();
        layBounds();
        layLowestBits();
        readBounds();
        readsNoTimes();
        readsUpTo20();
        readFromCell();
        readOfNothing();
        readOfAnotherLane();
        readOneBehindAnother();
        readRefusedByAlter();
        readFirstMet();
        tornOfTheLatest();
        countBounds();
        countsEmptyAndFull();
        Edge.finish(34, 40);
    }

    // ---- promises 34, 35

    private static BarrowGrief noImages() {
        return Edge.told(TWO);
    }

    private static void keeps() {
        Edge.promise(34, "IMAGE k (0, 1): whether there was one (1, 0). BAD");
        BarrowGrief x = noImages();
        int[] numbers = {MIN, -1, 2, MAX};
        Edge.bad(ImagesSheetsEdgesTest::noImages, 0, numbers, "keep", 0);
        Edge.bad(Edge::full, 0, numbers, "keep", 0);
        for (int k = 0; k < 2; k++) {
            Edge.due(0, x, "keep", k);
            Edge.due(k + 1, x, "count", 1);
            Edge.due(1, x, "keep", k);
            Edge.due(k + 1, x, "count", 1);
        }
        BarrowGrief y = noImages();
        Edge.due(0, y, "keep", 1);
        Edge.due(1, y, "count", 1);
        Edge.due(STATE, y, "back", 0);
        Edge.due(0, y, "keep", 0);
        Edge.promise(34, "IMAGE k is PEOPLE, of nobody too");
        BarrowGrief nobody = new BarrowGrief();
        Edge.due(0, nobody, "keep", 0);
        Edge.due(0, nobody, "hours", 9);
        Edge.due(0, nobody, "back", 0);
        Edge.due(0, nobody, "rule", 1);
    }

    private static void keepTakesThePlace() {
        Edge.promise(34, "IMAGE k is what there is: in place of what it was, the other stays");
        BarrowGrief x = noImages();
        Edge.due(0, x, "keep", 0);
        Edge.due(0, x, "keep", 1);
        Edge.call(x, "load", 77);
        Edge.call(x, "hours", 3);
        Edge.due(1, x, "keep", 0);
        Edge.due(0, x, "back", 1);
        Edge.due(0, x, "rule", 2);
        Edge.due(3, x, "back", 0);
        Edge.due(3, x, "rule", 1);
    }

    private static void backs() {
        Edge.promise(35, "All is as IMAGE k: HOUR. BAD; STATE: there is none");
        int[] numbers = {MIN, -1, 2, MAX};
        Edge.bad(ImagesSheetsEdgesTest::noImages, 0, numbers, "back", 0);
        Edge.bad(Edge::full, 0, numbers, "back", 0);
        for (int k = 0; k < 2; k++) {
            int other = 1 - k;
            Edge.still(STATE, ImagesSheetsEdgesTest::noImages, "back", k);
            Edge.still(STATE, BarrowGrief::new, "back", k);
            Supplier<BarrowGrief> oneKept = () -> {
                BarrowGrief x = noImages();
                Edge.call(x, "keep", other);
                Edge.call(x, "hours", 5);
                return x;
            };
            Edge.still(STATE, oneKept, "back", k);
            BarrowGrief x = oneKept.get();
            Edge.due(0, x, "keep", k);
            Edge.due(0, x, "back", other);
            Edge.due(5, x, "back", k);
            Edge.due(5, x, "back", k);
            Edge.due(2, x, "count", 1);
        }
        Edge.promise(35, "HOUR: up to 999");
        BarrowGrief y = noImages();
        for (int i = 0; i < 33; i++) {
            Edge.call(y, "hours", 30);
        }
        Edge.call(y, "hours", 9);
        Edge.call(y, "keep", 1);
        Edge.call(y, "cut", 0);
        Edge.due(999, y, "back", 1);
        Edge.due(2, y, "rule", 5);
    }

    private static void changeAll(BarrowGrief x) {
        Edge.call(x, "hours", 7);
        for (int p = 0; p < 5; p++) {
            Edge.call(x, "alter", p, 0, 3 - p % 4);
            Edge.call(x, "alter", p, 1, 60 + p);
            Edge.call(x, "alter", p, 2, 70 + p);
        }
        Edge.call(x, "takes", 55);
        Edge.call(x, "load", 44);
        Edge.call(x, "cut", 1);
        for (int i = 0; i < 7; i++) {
            Edge.call(x, "rota", 4 - i % 5);
        }
        Edge.call(x, "forget", 0);
        for (int i = 0; i < 6; i++) {
            Edge.call(x, "see", i, 4, 3 * i);
        }
    }

    private static void backIsAllAsItWas() {
        Edge.promise(35, "All is as IMAGE k: PEOPLE, THE BARROW, THE ROTA, HOUR, what was SEEN");
        BarrowGrief x = Edge.full();
        Edge.call(x, "keep", 0);
        changeAll(x);
        Edge.due(5, x, "back", 0);
        BarrowGrief untouched = Edge.full();
        Edge.call(untouched, "keep", 0);
        Edge.same("behind back(0)", Edge.everything(x), Edge.everything(untouched));
        Edge.promise(35, "All is as IMAGE k: a second time too");
        BarrowGrief y = Edge.full();
        Edge.call(y, "keep", 0);
        changeAll(y);
        Edge.call(y, "back", 0);
        changeAll(y);
        Edge.due(5, y, "back", 0);
        Edge.same("behind back(0) again", Edge.look(y), Edge.look(restored()));
    }

    private static BarrowGrief restored() {
        BarrowGrief x = Edge.full();
        Edge.call(x, "keep", 0);
        return x;
    }

    private static void backIsAllThatWasSeen() {
        Edge.promise(35, "All is as IMAGE k: what was SEEN, of 0 to 6");
        for (int many = 0; many <= 6; many++) {
            BarrowGrief x = Edge.told("plain 9 9;child 5 5;rota 0 1;");
            // The last alone tells another GRIEF of another ONE, behind another HOUR.
            for (int i = 1; i < many; i++) {
                Edge.call(x, "see", 0, 0, 9);
            }
            if (many > 0) {
                Edge.call(x, "see", 1, 1, 7);
            }
            Edge.call(x, "keep", 0);
            Edge.call(x, "forget", 0);
            for (int i = 0; i < 6; i++) {
                Edge.call(x, "see", 2, 0, 3);
            }
            Edge.due(0, x, "back", 0);
            Edge.due(many, x, "count", 0);
            Edge.due(many == 0 ? MAX : 1 << 7, x, "griefs", 1);
        }
    }

    private static void backLeavesTheRest() {
        Edge.promise(35, "All is as IMAGE k: THE TAPE, SHEETS, the FAULTS are none of it");
        BarrowGrief x = Edge.told(TWO);
        Edge.call(x, "keep", 0);
        Edge.call(x, "sheet", 0, 1, 4);
        Edge.call(x, "read", 3, 0, 0, 1);
        Edge.feed(x, "x");
        Edge.call(x, "text");
        Edge.feed(x, "rota;");
        Edge.due(0, x, "back", 0);
        Edge.due(4, x, "count", 3);
        Edge.due(NULL, x, "torn");
        Edge.due(2, x, "fault");
        Edge.due(5, x, "count", 2);
        Edge.due(1, x, "count", 1);
        Edge.due(1, x, "text");
    }

    private static void imagesAndTexts() {
        Edge.promise(34, "A text that is taken: IMAGES are gone");
        BarrowGrief x = Edge.told(TWO);
        Edge.call(x, "keep", 0);
        Edge.call(x, "keep", 1);
        Edge.feed(x, "A");
        Edge.call(x, "text");
        Edge.due(2, x, "count", 1);
        Edge.due(0, x, "text");
        Edge.due(0, x, "count", 1);
        Edge.due(STATE, x, "back", 0);
        Edge.due(STATE, x, "back", 1);
        Edge.due(0, x, "keep", 0);
        Edge.due(0, x, "keep", 1);
        Edge.due(1, x, "keep", 1);
    }

    // ---- promise 36

    private static void sheetBounds() {
        Edge.promise(36, "SHEETS 0 to 3: BYTES (lane 0), SHORTS (1), INTS (2) with 0 to 40 CELLS: 1. BAD: also n above 40");
        for (int k = 0; k < 4; k++) {
            for (int lane = 0; lane < 3; lane++) {
                BarrowGrief x = Edge.told(TWO);
                Edge.due(1, x, "sheet", k, lane, 40);
                Edge.due(1, x, "lay", k, 39, 1);
                Edge.due(-10 - INDEX, x, "lay", k, 40, 1);
                Edge.due(1, x, "sheet", k, lane, 1);
                Edge.due(1, x, "lay", k, 0, 1);
                Edge.due(-10 - INDEX, x, "lay", k, 1, 1);
                Edge.due(1, x, "sheet", k, lane, 0);
                Edge.due(-10 - INDEX, x, "lay", k, 0, 1);
                for (int other = 0; other < 4; other++) {
                    if (other != k) {
                        Edge.due(-10 - NULL, x, "lay", other, 0, 1);
                    }
                }
                Edge.bad(Edge::full, 2, new int[] {41, 42, MAX}, "sheet", k, lane, 0);
            }
            Edge.bad(Edge::full, 1, NO_LANE, "sheet", k, 0, 4);
        }
        Edge.bad(Edge::full, 0, NO_SHEET, "sheet", 0, 0, 4);
    }

    private static void sheetsBelow0() {
        Edge.promise(36, "-10 - 4; 4 SIZE (below 0)");
        int[] below = {MIN, -40, -1};
        for (int n : below) {
            for (int k = 0; k < 4; k++) {
                for (int lane = 0; lane < 3; lane++) {
                    Edge.still(-10 - SIZE, Edge::full, "sheet", k, lane, n);
                }
            }
            Edge.still(-10 - SIZE, BarrowGrief::new, "sheet", 3, 2, n);
            Edge.promise(36, "the first that fits: BAD, then -10 - 4");
            Edge.bad(Edge::full, 0, NO_SHEET, "sheet", 0, 0, n);
            Edge.bad(Edge::full, 1, NO_LANE, "sheet", 0, 0, n);
        }
    }

    private static void sheetIsANewRow() {
        Edge.promise(36, "A SHEET is a new row of CELLS 0");
        for (int lane = 0; lane < 3; lane++) {
            for (int was = 0; was < 3; was++) {
                BarrowGrief x = Edge.told("plain 9 9;");
                Edge.call(x, "sheet", 0, was, 40);
                for (int i = 0; i < 40; i++) {
                    Edge.call(x, "lay", 0, i, 77);
                }
                Edge.due(1, x, "sheet", 0, lane, 40);
                Edge.due(40, x, "count", 3);
                Edge.due(20, x, "read", 0, lane, 0, 20);
                Edge.due(0, x, "torn");
                Edge.due(0, x, "one", 0, 1);
                // Of the row that it was nothing is left, where it was longer.
                Edge.call(x, "sheet", 0, lane, 2);
                Edge.call(x, "lay", 0, 1, 7);
                Edge.call(x, "sheet", 0, lane, 4);
                Edge.due(2, x, "read", 0, lane, 0, 3);
                Edge.due(INDEX, x, "torn");
                Edge.due(0, x, "one", 0, 1);
                for (int other = 0; other < 3; other++) {
                    Edge.due(other == lane ? 1 : 0, x, "read", 0, other, 0, 1);
                }
            }
        }
    }

    // ---- promise 37

    private static void layBounds() {
        Edge.promise(37, "CELL i of a SHEET becomes v: 1. BAD: k; -10 less the FAULT: NULL, INDEX");
        int[] outside = {MIN, -40, -1, 6, 7, 39, 40, MAX};
        Edge.bad(Edge::full, 0, NO_SHEET, "lay", 0, 0, 1);
        Edge.bad(BarrowGrief::new, 0, NO_SHEET, "lay", 0, 0, 1);
        for (int i : outside) {
            Edge.still(-10 - INDEX, Edge::full, "lay", 0, i, 1);
        }
        for (int k = 0; k < 4; k++) {
            int[] any = {MIN, -1, 0, 39, 40, MAX};
            for (int i : any) {
                Edge.still(-10 - NULL, BarrowGrief::new, "lay", k, i, 1);
            }
        }
        Edge.promise(37, "the first that fits: BAD: k");
        Edge.bad(BarrowGrief::new, 0, NO_SHEET, "lay", 0, -1, 1);
        Edge.bad(Edge::full, 0, NO_SHEET, "lay", 0, 99, 1);
        Edge.promise(37, "CELL i of a SHEET: that one alone");
        BarrowGrief x = Edge.told("plain 9 9;plain 9 9;plain 9 9;plain 9 9;");
        Edge.call(x, "sheet", 1, 2, 8);
        for (int i = 7; i >= 0; i--) {
            Edge.due(1, x, "lay", 1, i, i % 2 == 0 ? i / 2 : 10 + i);
        }
        Edge.due(4, x, "read", 1, 2, 0, 5);
        for (int p = 0; p < 4; p++) {
            Edge.due(11 + 2 * p, x, "one", p, 1);
        }
    }

    /** What is laid as the GRIEF of ONE 0 is read: the GRIEF that it comes to, or that it is refused. */
    private static void laid(int lane, int v, int grief) {
        BarrowGrief x = Edge.told("plain 9 9;");
        Edge.call(x, "sheet", 2, lane, 2);
        Edge.due(1, x, "lay", 2, 1, v);
        boolean refused = grief < 0 || grief > 99;
        Edge.due(refused ? -20 : 1, x, "read", 2, lane, 0, 1);
        Edge.due(refused ? 9 : grief, x, "one", 0, 1);
    }

    private static void layLowestBits() {
        Edge.promise(37, "becomes v (its lowest bits)");
        int[] values = {MIN, MIN + 1, MIN + 99, MIN + 100, -65537, -65536, -65437, -65436, -32769, -32768, -257, -256, -255,
            -157, -156, -129, -128, -1, 0, 1, 99, 100, 127, 128, 255, 256, 257, 355, 356, 32767, 32768, 65535, 65536, 65537,
            65635, 65636, 16777216, MAX - 1, MAX};
        for (int v : values) {
            int ofByte = Math.floorMod((long) v + 128, 256) - 128;
            int ofShort = Math.floorMod((long) v + 32768, 65536) - 32768;
            laid(0, v, ofByte);
            laid(1, v, ofShort);
            laid(2, v, v);
        }
        laid(0, 355, 99);
        laid(0, -157, 99);
        laid(1, 65635, 99);
        laid(1, -65437, 99);
        laid(1, 256, 256);
        laid(2, 65536, 65536);
    }

    // ---- promise 38

    private static void readBounds() {
        Edge.promise(38, "BAD: k, lane, n");
        int[] noTimes = {MIN, -1, 21, MAX};
        int[] lanes = {0, 1, 2};
        for (int lane : lanes) {
            Edge.bad(Edge::full, 0, NO_SHEET, "read", 0, lane, 0, 1);
            Edge.bad(Edge::full, 3, noTimes, "read", 0, lane, 0, 1);
            Edge.bad(BarrowGrief::new, 3, noTimes, "read", 0, lane, 0, 1);
        }
        Edge.bad(Edge::full, 1, NO_LANE, "read", 0, 0, 0, 1);
        Edge.bad(Edge::full, 1, NO_LANE, "read", 3, 0, 0, 1);
        Edge.promise(38, "the first that fits: BAD, whatever the machine would find");
        Edge.bad(Edge::full, 1, NO_LANE, "read", 0, 0, -1, 1);
        Edge.bad(Edge::full, 3, noTimes, "read", 3, 0, -1, 1);
        Edge.bad(Edge::full, 0, NO_SHEET, "read", 0, 0, 0, 0);
        Edge.bad(Edge::full, 1, NO_LANE, "read", 0, 0, 0, 0);
    }

    private static void readsNoTimes() {
        Edge.promise(38, "n (0 to 20) times: none, so that nothing is refused");
        int[] cells = {MIN, -1, 0, 6, 40, MAX};
        for (int k = 0; k < 4; k++) {
            for (int lane = 0; lane < 3; lane++) {
                for (int f : cells) {
                    BarrowGrief x = Edge.full();
                    List<String> before = Edge.but("torn()", Edge.look(x));
                    Edge.due(0, x, "read", k, lane, f, 0);
                    Edge.due(0, x, "torn");
                    Edge.same("behind a read of none", Edge.but("torn()", Edge.look(x)), before);
                }
            }
        }
        Edge.due(0, new BarrowGrief(), "read", 0, 0, 0, 0);
    }

    /** A sheet of 40 cells: ONES 0 and 1 by turns, with GRIEF of 1 on. */
    private static BarrowGrief fortyCells(int lane) {
        BarrowGrief x = Edge.told(TWO);
        Edge.call(x, "sheet", 0, lane, 40);
        for (int i = 0; i < 20; i++) {
            Edge.call(x, "lay", 0, 2 * i, i % 2);
            Edge.call(x, "lay", 0, 2 * i + 1, i + 1);
        }
        return x;
    }

    private static void readsUpTo20() {
        Edge.promise(38, "n (0 to 20) times a ONE, his GRIEF are read, two CELLS each from CELL f on: how many came");
        for (int lane = 0; lane < 3; lane++) {
            BarrowGrief x = fortyCells(lane);
            for (int n = 1; n <= 20; n++) {
                Edge.due(n, x, "read", 0, lane, 0, n);
                Edge.due(0, x, "torn");
                // The last of each ONE stays.
                Edge.due(n, x, "one", (n - 1) % 2, 1);
                Edge.due(n == 1 ? 5 : n - 1, x, "one", n % 2, 1);
            }
            Edge.due(BAD, x, "read", 0, lane, 0, 21);
            Edge.due(20, x, "one", 1, 1);
        }
    }

    private static void readFromCell() {
        Edge.promise(38, "from CELL f on. What the machine refuses: those that were whole ahead came");
        for (int lane = 0; lane < 3; lane++) {
            BarrowGrief x = fortyCells(lane);
            Edge.due(1, x, "read", 0, lane, 38, 1);
            Edge.due(0, x, "torn");
            Edge.due(20, x, "one", 1, 1);
            Edge.due(1, x, "read", 0, lane, 38, 2);
            Edge.due(INDEX, x, "torn");
            Edge.due(18, x, "read", 0, lane, 4, 20);
            Edge.due(INDEX, x, "torn");
            int[] none = {MIN, MIN + 1, -40, -2, -1, 39, 40, 41, MAX - 40, MAX - 2, MAX - 1, MAX};
            for (int f : none) {
                for (int n = 1; n <= 20; n += 19) {
                    BarrowGrief y = fortyCells(lane);
                    Edge.due(0, y, "read", 0, lane, f, n);
                    Edge.due(INDEX, y, "torn");
                    Edge.due(9, y, "one", 0, 1);
                    Edge.due(5, y, "one", 1, 1);
                }
            }
        }
        Edge.promise(38, "those that were whole ahead came: half of one is none");
        BarrowGrief x = Edge.told(TWO);
        Edge.call(x, "sheet", 1, 1, 5);
        Edge.layAll(x, 1, 0, 11, 1, 22, 0);
        Edge.due(2, x, "read", 1, 1, 0, 3);
        Edge.due(INDEX, x, "torn");
        Edge.due(11, x, "one", 0, 1);
        Edge.due(22, x, "one", 1, 1);
        Edge.call(x, "sheet", 1, 1, 0);
        Edge.due(0, x, "read", 1, 1, 0, 1);
        Edge.due(INDEX, x, "torn");
        Edge.call(x, "sheet", 1, 1, 1);
        Edge.due(0, x, "read", 1, 1, 0, 1);
        Edge.due(INDEX, x, "torn");
        Edge.call(x, "sheet", 1, 1, 2);
        Edge.due(1, x, "read", 1, 1, 0, 1);
        Edge.due(0, x, "torn");
    }

    private static void readOfNothing() {
        Edge.promise(38, "What the machine refuses: 1 NULL (nothing)");
        int[] cells = {MIN, -1, 0, 40, MAX};
        for (int k = 0; k < 4; k++) {
            for (int lane = 0; lane < 3; lane++) {
                for (int f : cells) {
                    BarrowGrief x = Edge.told(TWO);
                    Edge.due(0, x, "read", k, lane, f, 1);
                    Edge.due(NULL, x, "torn");
                    Edge.due(9, x, "one", 0, 1);
                }
            }
        }
    }

    private static void readOfAnotherLane() {
        Edge.promise(38, "a SHEET taken as of a lane; 3 CAST (another lane)");
        int[] cells = {MIN, -1, 0, 40, MAX};
        for (int lane = 0; lane < 3; lane++) {
            for (int as = 0; as < 3; as++) {
                for (int f : cells) {
                    BarrowGrief x = Edge.told(TWO);
                    Edge.call(x, "sheet", 3, lane, 4);
                    Edge.due(as == lane && f == 0 ? 2 : 0, x, "read", 3, as, f, 2);
                    Edge.due(as != lane ? CAST : f == 0 ? 0 : INDEX, x, "torn");
                    Edge.due(as == lane && f == 0 ? 0 : 9, x, "one", 0, 1);
                }
                BarrowGrief empty = Edge.told(TWO);
                Edge.call(empty, "sheet", 3, lane, 0);
                Edge.due(0, empty, "read", 3, as, 0, 20);
                Edge.due(as != lane ? CAST : INDEX, empty, "torn");
            }
        }
    }

    private static void readOneBehindAnother() {
        Edge.promise(38, "one behind another as by alter()");
        BarrowGrief x = Edge.told("plain 9 9;child 5 5;widow 3 3;stout 2 2;plain 1 1;");
        Edge.call(x, "sheet", 0, 0, 12);
        Edge.layAll(x, 0, 4, 99, 0, 0, 4, 50, 3, 98, 0, 7, 4, 0);
        int[][] due = {{9, 99}, {0, 99}, {0, 50}, {0, 50}, {7, 50}, {7, 0}};
        for (int n = 1; n <= 6; n++) {
            BarrowGrief y = Edge.told("plain 9 9;child 5 5;widow 3 3;stout 2 2;plain 1 1;");
            Edge.call(y, "sheet", 0, 0, 12);
            Edge.layAll(y, 0, 4, 99, 0, 0, 4, 50, 3, 98, 0, 7, 4, 0);
            Edge.due(n, y, "read", 0, 0, 0, n);
            Edge.due(due[n - 1][0], y, "one", 0, 1);
            Edge.due(due[n - 1][1], y, "one", 4, 1);
            Edge.due(5, y, "one", 1, 1);
            Edge.due(n < 4 ? 2 : 98, y, "one", 3, 1);
        }
        Edge.promise(38, "his GRIEF is read: nothing else is changed");
        Edge.due(6, x, "read", 0, 0, 0, 6);
        int[][] rest = {{0, 9}, {2, 5}, {3, 3}, {1, 2}, {0, 1}};
        for (int p = 0; p < 5; p++) {
            Edge.due(rest[p][0], x, "one", p, 0);
            Edge.due(rest[p][1], x, "one", p, 2);
        }
        // The sheet is read of as it was.
        Edge.due(1, x, "read", 0, 0, 6, 1);
        Edge.due(98, x, "one", 3, 1);
    }

    /** Sheet 2 is of as many pairs, each of ONE 0 and 7, but the i-th, which is as told. */
    private static Supplier<BarrowGrief> pairs(int many, int i, int p, int g) {
        return () -> {
            BarrowGrief x = Edge.told(TWO);
            Edge.call(x, "sheet", 2, 2, 2 * many);
            for (int j = 0; j < many; j++) {
                Edge.call(x, "lay", 2, 2 * j, j == i ? p : 0);
                Edge.call(x, "lay", 2, 2 * j + 1, j == i ? g : 7);
            }
            Edge.call(x, "read", 2, 0, 0, 1);
            return x;
        };
    }

    private static void readRefusedByAlter() {
        Edge.promise(38, "-20 less i: the i-th, whole, is refused by alter(): then none came");
        for (int i = 0; i < 20; i++) {
            Edge.still(-20 - i, pairs(20, i, 2, 7), "read", 2, 2, 0, 20);
            Edge.still(-20 - i, pairs(20, i, 0, 100), "read", 2, 2, 0, i + 1);
            if (i > 0) {
                Edge.due(i, pairs(20, i, 2, 7).get(), "read", 2, 2, 0, i);
            }
        }
        int[][] refused = {{-1, 7}, {2, 7}, {MIN, 7}, {MAX, 7}, {5, 7}, {0, -1}, {0, 100}, {1, MIN}, {1, MAX}, {2, 100}};
        for (int[] r : refused) {
            Edge.still(-21, pairs(3, 1, r[0], r[1]), "read", 2, 2, 0, 3);
        }
        int[][] taken = {{0, 0}, {0, 99}, {1, 0}, {1, 99}};
        for (int[] t : taken) {
            BarrowGrief x = pairs(3, 2, t[0], t[1]).get();
            Edge.due(3, x, "read", 2, 2, 0, 3);
            Edge.due(t[1], x, "one", t[0], 1);
        }
        Edge.promise(38, "refused by alter(): when there is nobody");
        BarrowGrief nobody = new BarrowGrief();
        Edge.call(nobody, "sheet", 0, 0, 40);
        Edge.due(-20, nobody, "read", 0, 0, 0, 20);
        Edge.due(0, nobody, "read", 0, 0, 0, 0);
    }

    private static void readFirstMet() {
        Edge.promise(38, "the first met");
        // Two pairs are refused: the first of them.
        BarrowGrief x = pairs(4, 1, 9, 7).get();
        Edge.call(x, "lay", 2, 6, 9);
        Edge.due(-21, x, "read", 2, 2, 0, 4);
        // The second of two is refused, behind them the machine would refuse.
        Edge.still(-21, pairs(2, 1, 9, 7), "read", 2, 2, 0, 20);
        // The last is a pair that would be refused, but it is not whole.
        BarrowGrief y = pairs(2, 1, 0, 8).get();
        Edge.call(y, "sheet", 0, 1, 3);
        Edge.layAll(y, 0, 1, 44, 9);
        Edge.due(1, y, "read", 0, 1, 0, 2);
        Edge.due(INDEX, y, "torn");
        Edge.due(44, y, "one", 1, 1);
        // From CELL 1 on the pairs are others.
        Edge.call(y, "lay", 0, 1, 1);
        Edge.call(y, "lay", 0, 2, 33);
        Edge.due(1, y, "read", 0, 1, 1, 1);
        Edge.due(33, y, "one", 1, 1);
        // Nothing, and another lane, are met ahead of any pair.
        BarrowGrief z = pairs(2, 0, 9, 7).get();
        Edge.due(0, z, "read", 2, 1, 0, 2);
        Edge.due(CAST, z, "torn");
        Edge.due(0, z, "read", 1, 1, 0, 2);
        Edge.due(NULL, z, "torn");
    }

    // ---- promise 39

    private static void tornOfTheLatest() {
        Edge.promise(39, "The FAULT of the latest read() that came to an end; 0");
        BarrowGrief x = Edge.told(TWO);
        Edge.due(0, x, "torn");
        Edge.call(x, "sheet", 0, 0, 4);
        int[][] reads = {{1, 0, 0, 1, NULL}, {0, 1, 0, 1, CAST}, {0, 0, 4, 1, INDEX}, {0, 0, 0, 2, 0}, {0, 2, 0, 1, CAST},
            {0, 0, 0, 0, 0}, {0, 0, 0, 3, INDEX}};
        for (int[] r : reads) {
            Edge.call(x, "read", r[0], r[1], r[2], r[3]);
            Edge.due(r[4], x, "torn");
            Edge.due(r[4], x, "torn");
            // Those that are refused come to no end.
            Edge.due(BAD, x, "read", 4, 0, 0, 1);
            Edge.due(BAD, x, "read", 0, 3, 0, 1);
            Edge.due(BAD, x, "read", 0, 0, 0, 21);
            Edge.call(x, "lay", 0, 0, 9);
            Edge.due(-20, x, "read", 0, 0, 0, 3);
            Edge.call(x, "lay", 0, 0, 0);
            Edge.due(r[4], x, "torn");
        }
        Edge.promise(39, "The FAULT of the latest read(): not of lay(), sheet()");
        Edge.due(-10 - NULL, x, "lay", 3, 0, 0);
        Edge.due(INDEX, x, "torn");
        Edge.due(-10 - SIZE, x, "sheet", 3, 0, -1);
        Edge.due(INDEX, x, "torn");
        Edge.due(0, x, "read", 3, 0, 0, 1);
        Edge.due(-10 - INDEX, x, "lay", 0, 4, 0);
        Edge.due(NULL, x, "torn");
        Edge.call(x, "sheet", 3, 0, 2);
        Edge.due(NULL, x, "torn");
        Edge.still(2, Edge::full, "torn");
    }

    // ---- promise 40

    private static void countBounds() {
        Edge.promise(40, "How many: 0 SEEN, 1 IMAGES, 2 bytes, 3 CELLS of SHEET 0, 4 GRIEF of all, 5 what all BEAR. BAD");
        Edge.bad(Edge::full, 0, new int[] {MIN, -1, 6, MAX}, "count", 0);
        Edge.bad(BarrowGrief::new, 0, new int[] {MIN, -1, 6, MAX}, "count", 0);
        for (int what = 0; what < 6; what++) {
            Edge.asks(Edge::full, "count", what);
        }
    }

    private static void countsEmptyAndFull() {
        Edge.promise(40, "How many: of nothing, and of as many as there may be");
        BarrowGrief x = new BarrowGrief();
        int[] empty = {0, 0, 0, NONE, 0, 0};
        for (int what = 0; what < 6; what++) {
            Edge.due(empty[what], x, "count", what);
        }
        Edge.tell(x, "plain 99 99;stout 99 99;child 99 99;widow 99 99;plain 99 99;barrow 99 99;");
        for (int i = 0; i < 6; i++) {
            Edge.due(i, x, "count", 0);
            Edge.call(x, "see", 0, 0, 99);
        }
        Edge.call(x, "keep", 1);
        Edge.due(1, x, "count", 1);
        Edge.call(x, "keep", 0);
        Edge.feed(x, "a".repeat(160));
        Edge.promise(40, "3 CELLS of SHEET 0 (NONE: nothing)");
        for (int k = 1; k < 4; k++) {
            Edge.call(x, "sheet", k, 0, 7);
            Edge.due(NONE, x, "count", 3);
        }
        Edge.call(x, "sheet", 0, 0, 0);
        Edge.due(0, x, "count", 3);
        Edge.call(x, "sheet", 0, 2, 40);
        int[] full = {6, 2, 160, 40, 495, 495};
        for (int what = 0; what < 6; what++) {
            Edge.due(full[what], x, "count", what);
        }
        Edge.promise(40, "4 GRIEF of all, 5 what all BEAR: LOAD is none of it");
        BarrowGrief y = Edge.told("plain 0 1;plain 0 1;barrow 50 50;");
        Edge.due(0, y, "count", 4);
        Edge.due(2, y, "count", 5);
        Edge.call(y, "alter", 1, 1, 3);
        Edge.call(y, "alter", 0, 2, 4);
        Edge.due(3, y, "count", 4);
        Edge.due(5, y, "count", 5);
    }
}
