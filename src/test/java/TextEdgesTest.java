import java.util.List;

/** Promises 1 to 8 at their edges: a new object, the tape, the text with its faults, what was told. */
public final class TextEdgesTest {
    private static final int BAD = BarrowGrief.BAD, STATE = BarrowGrief.STATE, FULL = BarrowGrief.FULL,
        NONE = BarrowGrief.NONE;
    private static final int MIN = Edge.MIN, MAX = Edge.MAX;
    private static final String FIVE = "plain 1 1;stout 2 2;child 3 3;widow 4 4;plain 5 5;";

    public static void main(String[] args) {
        newObject();
        newObjectIsAsked();
        objectsAreByThemselves();
        lastCall();
        feeds();
        feedsWhenFull();
        ends();
        endKeepsTheFirst();
        textOfNothing();
        bytesThatAreNoToken();
        figuresOfANumber();
        namesThatBeginNoLine();
        tokensThatCanNotStandThere();
        theEndInALine();
        numbersAtTheirBounds();
        linesForTheSecondTime();
        theSixthOne();
        theNinthTurn();
        onesThatThereAreNot();
        theFirstFaultMet();
        tokensWithoutBlanks();
        placesUpTo160();
        textTellsAll();
        faultLeavesWhatWasTold();
        faultOfTheLatest();
        rules();
        whoseTurnItIs();
        ones();
        handsAndHeals();
        turns();
        Edge.finish(1, 8);
    }

    // ---- promise 1

    private static void newObject() {
        Edge.promise(1, "Nobody; SHEETS of nothing; 30 at first; 0 at first");
        BarrowGrief x = new BarrowGrief();
        int[] rule = {0, 0, 0, 30, 0, 0, NONE};
        for (int what = 0; what < rule.length; what++) {
            Edge.due(rule[what], x, "rule", what);
        }
        int[] count = {0, 0, 0, NONE, 0, 0};
        for (int what = 0; what < count.length; what++) {
            Edge.due(count[what], x, "count", what);
        }
        for (int k = 0; k < 4; k++) {
            Edge.due(-11, x, "lay", k, 0, 0);
        }
        Edge.due(STATE, x, "back", 0);
        Edge.due(STATE, x, "back", 1);
        Edge.due(0, x, "fault");
        Edge.due(0, x, "torn");
        Edge.due(BAD, x, "one", 0, 0);
        Edge.due(BAD, x, "turn", 0);
    }

    private static void newObjectIsAsked() {
        Edge.promise(1, "Nobody");
        String[] ofOne = {"light", "kinds", "griefs", "rota"};
        for (String name : ofOne) {
            Edge.still(BAD, BarrowGrief::new, name, 0);
        }
        Edge.still(BAD, BarrowGrief::new, "ahead", 0, 0);
        Edge.still(BAD, BarrowGrief::new, "need", 0, 0);
        Edge.still(BAD, BarrowGrief::new, "ask", 0, 0);
        Edge.still(BAD, BarrowGrief::new, "kind", 0, 0, 0);
        Edge.still(BAD, BarrowGrief::new, "see", 0, 0, 0);
        Edge.still(BAD, BarrowGrief::new, "alter", 0, 1, 0);
        int[] runs = {0, 0, 0, NONE, 0};
        for (int what = 0; what < runs.length; what++) {
            Edge.still(runs[what], BarrowGrief::new, "runs", 60, what);
        }
        Edge.still(0, BarrowGrief::new, "under", 0);
        Edge.still(0, BarrowGrief::new, "order", 0);
        Edge.still(NONE, BarrowGrief::new, "order", 10);
        Edge.still(NONE, BarrowGrief::new, "extra", 0, 0);
        Edge.still(NONE, BarrowGrief::new, "spare", 60, 0);
        Edge.still(NONE, BarrowGrief::new, "swap", 60, 0);
        Edge.still(99, BarrowGrief::new, "most", 60);
        Edge.still(1, BarrowGrief::new, "luck", 5, 8, 0, 0);
        Edge.still(1, BarrowGrief::new, "luck", 5, 8, 0, 1);
        Edge.still(0, BarrowGrief::new, "mean", 5, 8, 0);
        Edge.still(1, BarrowGrief::new, "mean", 5, 8, 1);
        Edge.still(STATE, BarrowGrief::new, "drift", 0, 1, 0);
        Edge.still(0, BarrowGrief::new, "forget", 0);
        Edge.still(0, BarrowGrief::new, "cut", 0);
        Edge.still(0, BarrowGrief::new, "end", 0);
        Edge.still(0, BarrowGrief::new, "text");
        Edge.still(0, BarrowGrief::new, "hours", 0);
    }

    private static void objectsAreByThemselves() {
        Edge.promise(1, "Nobody; SHEETS of nothing");
        BarrowGrief x = new BarrowGrief();
        Edge.full();
        Edge.same("a new one beside a full one", Edge.everything(x), Edge.everything(new BarrowGrief()));
    }

    private static void lastCall() {
        Edge.promise(1, "An object is used for at most 512 calls after it has been made");
        BarrowGrief x = new BarrowGrief();
        for (int i = 1; i < 255; i++) {
            Edge.due(1, x, "feed", 'a');
            Edge.due(1, x, "end", 0);
        }
        Edge.due(30, x, "takes", 7);
        Edge.due(0, x, "keep", 0);
        Edge.due(0, x, "back", 0);
        Edge.due(7, x, "rule", 3);
    }

    // ---- promises 2, 3

    private static void feeds() {
        Edge.promise(2, "A byte (0 to 127) comes behind THE TAPE: how many it has. BAD");
        BarrowGrief x = new BarrowGrief();
        for (int c = 0; c <= 127; c++) {
            Edge.due(c + 1, x, "feed", c);
        }
        Edge.due(128, x, "count", 2);
        int[] numbers = {MIN, -1, 128, 255, 256, MAX};
        Edge.bad(Edge::full, 0, numbers, "feed", 0);
        Edge.bad(BarrowGrief::new, 0, numbers, "feed", 0);
    }

    /** A text of 160 bytes that can be taken. */
    private static BarrowGrief fullTape() {
        BarrowGrief x = new BarrowGrief();
        Edge.feed(x, " ".repeat(143) + "stout 6 7;rota 0;");
        return x;
    }

    private static void feedsWhenFull() {
        Edge.promise(2, "FULL: more than 160");
        BarrowGrief x = new BarrowGrief();
        for (int i = 1; i <= 160; i++) {
            Edge.due(i, x, "feed", 32);
        }
        Edge.due(FULL, x, "feed", 32);
        Edge.due(160, x, "count", 2);
        Edge.still(FULL, TextEdgesTest::fullTape, "feed", 0);
        Edge.still(FULL, TextEdgesTest::fullTape, "feed", 127);
        Edge.promise(2, "the first that fits: BAD, FULL");
        Edge.still(BAD, TextEdgesTest::fullTape, "feed", -1);
        Edge.still(BAD, TextEdgesTest::fullTape, "feed", 128);
        Edge.promise(2, "how many it has, when there is room again");
        Edge.due(160, x, "end", 159);
        Edge.due(160, x, "feed", 'x');
        Edge.due(FULL, x, "feed", 'x');
        Edge.due(-10 - 159, x, "text");
        Edge.due(1, x, "feed", 'x');
    }

    private static void ends() {
        Edge.promise(3, "THE TAPE keeps its first n bytes: how many it had. BAD");
        BarrowGrief x = new BarrowGrief();
        Edge.due(BAD, x, "end", 1);
        Edge.due(0, x, "end", 0);
        Edge.feed(x, "abc");
        Edge.due(BAD, x, "end", 4);
        Edge.due(3, x, "end", 3);
        Edge.due(3, x, "end", 1);
        Edge.due(1, x, "count", 2);
        Edge.due(BAD, x, "end", 2);
        Edge.due(1, x, "end", 0);
        Edge.due(0, x, "count", 2);
        Edge.bad(Edge::full, 0, new int[] {MIN, -1, 18, 160, 161, MAX}, "end", 0);
        Edge.bad(BarrowGrief::new, 0, new int[] {MIN, -1, 1, 160, MAX}, "end", 0);
        Edge.bad(TextEdgesTest::fullTape, 0, new int[] {MIN, -1, 161, MAX}, "end", 0);
        Edge.still(17, Edge::full, "end", 17);
        Edge.still(160, TextEdgesTest::fullTape, "end", 160);
        Edge.due(160, fullTape(), "end", 0);
    }

    private static void endKeepsTheFirst() {
        Edge.promise(3, "THE TAPE keeps its first n bytes");
        BarrowGrief x = new BarrowGrief();
        Edge.feed(x, "plain 1 1;x");
        Edge.due(11, x, "end", 10);
        Edge.due(1, x, "text");
        Edge.promise(3, "THE TAPE keeps its first n bytes: none of those that were cut off is read");
        Edge.feed(x, "rota;");
        Edge.due(5, x, "end", 4);
        Edge.due(-14, x, "text");
        Edge.feed(x, "barrow 123");
        Edge.due(10, x, "end", 9);
        Edge.due(-19, x, "text");
        Edge.due(2, x, "fault");
        Edge.feed(x, "plainer");
        Edge.due(7, x, "end", 5);
        Edge.feed(x, " 7 8;");
        Edge.due(1, x, "text");
        Edge.due(7, x, "one", 0, 1);
    }

    // ---- promises 4, 5

    private static void taken(String text, int lines) {
        BarrowGrief x = new BarrowGrief();
        Edge.feed(x, text);
        Edge.due(lines, x, "text");
        Edge.due(0, x, "fault");
        Edge.due(0, x, "count", 2);
    }

    /** A fault leaves the tape empty, and what was told (here nothing) as it was. */
    private static void faulty(String text, int fault, int place) {
        BarrowGrief x = new BarrowGrief();
        Edge.feed(x, text);
        Edge.due(-10 - place, x, "text");
        Edge.due(fault, x, "fault");
        Edge.due(0, x, "count", 2);
        Edge.due(0, x, "rule", 0);
        Edge.due(30, x, "rule", 3);
        Edge.due(0, x, "rule", 5);
    }

    private static void textOfNothing() {
        Edge.promise(4, "THE TAPE (empty then) tells all: how many lines; text: { line }");
        taken("", 0);
        taken(" ", 0);
        taken(" ".repeat(160), 0);
        taken("rota;", 1);
        taken("rota ; ", 1);
        taken("barrow 30 0;", 1);
        taken(FIVE, 5);
        taken(FIVE + "barrow 1 0;rota 0 1 2 3 4 0 1 2;", 7);
        Edge.promise(4, "A text that is taken tells all, in place of what there was");
        BarrowGrief x = Edge.full();
        Edge.due(17, x, "end", 0);
        Edge.due(0, x, "text");
        Edge.due(0, x, "rule", 0);
        Edge.due(0, x, "rule", 1);
        Edge.due(0, x, "rule", 2);
        Edge.due(30, x, "rule", 3);
        Edge.due(0, x, "rule", 5);
        Edge.due(0, x, "count", 0);
        Edge.due(0, x, "count", 1);
    }

    private static void bytesThatAreNoToken() {
        Edge.promise(4, "blanks (32) between: NAMES (a .. z), NUMBERS, one ;; 1 no TOKEN");
        for (int c = 0; c <= 127; c++) {
            boolean name = c >= 'a' && c <= 'z';
            boolean number = c >= '0' && c <= '9';
            if (c == 32) {
                continue;
            }
            int fault = name || number || c == ';' ? 2 : 1;
            faulty(String.valueOf((char) c), fault, 0);
            faulty("  " + (char) c, fault, 2);
            // Behind a number of one figure: a figure more makes it one of two, which may stand there.
            if (!number) {
                faulty("plain 1" + (char) c, fault, 7);
                faulty("plain 1 " + (char) c, fault, 8);
            }
            // Behind a name of the lines: a letter more makes it another.
            if (!number && !name && c != ';') {
                faulty("rota" + (char) c, 1, 4);
            }
        }
    }

    private static void figuresOfANumber() {
        Edge.promise(4, "NUMBERS (1 or 2 figures); 1 a NUMBER that is too long (its first byte)");
        taken("plain 0 1;", 1);
        taken("plain 00 01;", 1);
        taken("plain 99 99;", 1);
        taken("barrow 01 00;", 1);
        taken("plain 1 1;rota 00 0;", 2);
        faulty("plain 000 1;", 1, 6);
        faulty("plain 100 1;", 1, 6);
        faulty("plain 001 1;", 1, 6);
        faulty("plain 1 001;", 1, 8);
        faulty("plain 12 100", 1, 9);
        faulty("barrow 010 0;", 1, 7);
        faulty("barrow 10 000;", 1, 10);
        faulty("plain 1 1;rota 0 000;", 1, 17);
        faulty("100", 1, 0);
        faulty("plain 1 1 111;", 1, 10);
        faulty("plain 4294967296 1;", 1, 6);
        faulty("plain 18446744073709551616 1;", 1, 6);
        faulty("plain " + "0".repeat(154), 1, 6);
        faulty("plain 1 " + "9".repeat(152), 1, 8);
    }

    private static void namesThatBeginNoLine() {
        Edge.promise(4, "TOKENS, each as long as may be; 2 a NAME that begins no line");
        String[] names = {"plain", "stout", "child", "widow", "barrow", "rota"};
        for (String name : names) {
            String shorter = name.substring(0, name.length() - 1);
            faulty(shorter + " 1 1;", 2, 0);
            faulty(name + "a 1 1;", 2, 0);
            faulty(name + "z 1 1;", 2, 0);
            faulty("a" + name + " 1 1;", 2, 0);
            faulty(name.substring(1) + " 1 1;", 2, 0);
            faulty(" " + name + name + " 1 1;", 2, 1);
            for (int i = 0; i < name.length(); i++) {
                faulty(name.substring(0, i) + "q" + name.substring(i + 1) + " 1 1;", 2, 0);
            }
        }
        faulty("a", 2, 0);
        faulty("z", 2, 0);
        faulty("rota;x", 2, 5);
        faulty("a".repeat(160), 2, 0);
    }

    private static void tokensThatCanNotStandThere() {
        Edge.promise(4, "2 a TOKEN that can not stand there");
        faulty(";", 2, 0);
        faulty("0", 2, 0);
        faulty("rota;;", 2, 5);
        faulty("rota; 1", 2, 6);
        String[] ofTwo = {"plain", "stout", "child", "widow", "barrow"};
        for (String name : ofTwo) {
            int at = name.length() + 1;
            faulty(name + " ;", 2, at);
            faulty(name + " rota", 2, at);
            faulty(name + " 1 ;", 2, at + 2);
            faulty(name + " 1 rota", 2, at + 2);
            faulty(name + " 1 1 1;", 2, at + 4);
            faulty(name + " 1 1 rota;", 2, at + 4);
            taken(name + " 1 1 ;", 1);
        }
        faulty("rota rota", 2, 5);
        faulty("rota 0 rota", 2, 7);
        faulty("rota 0 x", 2, 7);
    }

    private static void theEndInALine() {
        Edge.promise(4, "2 or the end: the length");
        String[] ofTwo = {"plain", "stout", "child", "widow", "barrow"};
        for (String name : ofTwo) {
            String[] ends = {name, name + " ", name + " 1", name + " 1 ", name + " 1 1", name + " 1 1   "};
            for (String text : ends) {
                faulty(text, 2, text.length());
            }
        }
        faulty("rota", 2, 4);
        faulty("rota  ", 2, 6);
        faulty("plain 1 1;rota 0", 2, 16);
        faulty("plain 1 1;rota 0 ", 2, 17);
        faulty("rota 0 0 0 0 0 0 0 0", 2, 20);
    }

    private static void numbersAtTheirBounds() {
        Edge.promise(4, "a GRIEF (0 to 99), who BEARS so much (1 to 99); 3 a NUMBER out of its bounds");
        String[] kinds = {"plain", "stout", "child", "widow"};
        for (int k = 0; k < 4; k++) {
            BarrowGrief x = Edge.told(kinds[k] + " 0 1;" + kinds[k] + " 99 99;");
            for (int p = 0; p < 2; p++) {
                Edge.due(k, x, "one", p, 0);
                Edge.due(p == 0 ? 0 : 99, x, "one", p, 1);
                Edge.due(p == 0 ? 1 : 99, x, "one", p, 2);
            }
            faulty(kinds[k] + " 0 0;", 3, 8);
            faulty(kinds[k] + " 99 00;", 3, 9);
        }
        Edge.promise(4, "THE BARROW TAKES so much (1 to 99), with a LOAD (0 to 99)");
        BarrowGrief x = Edge.told("barrow 1 0;");
        Edge.due(1, x, "rule", 3);
        Edge.due(0, x, "rule", 2);
        Edge.tell(x, "barrow 99 99;");
        Edge.due(99, x, "rule", 3);
        Edge.due(99, x, "rule", 2);
        Edge.tell(x, "barrow 1 99;");
        Edge.due(1, x, "rule", 3);
        Edge.due(99, x, "rule", 2);
        faulty("barrow 0 0;", 3, 7);
        faulty("barrow 00 1;", 3, 7);
        Edge.promise(4, "rota: THE ROTA: ONES (0 to 4)");
        BarrowGrief y = Edge.told(FIVE + "rota 4 0;");
        Edge.due(4, y, "turn", 0);
        Edge.due(0, y, "turn", 1);
        for (int p = 5; p <= 99; p++) {
            faulty("rota 0 " + p + ";", 3, 7);
        }
        faulty(FIVE + "rota 5;", 3, 55);
    }

    private static void linesForTheSecondTime() {
        Edge.promise(4, "4 barrow, rota for the second time (its NAME)");
        faulty("barrow 1 1;barrow 1 1;", 4, 11);
        faulty("barrow 30 0; rota; barrow", 4, 19);
        faulty("rota;rota;", 4, 5);
        faulty("rota;barrow 1 1;rota", 4, 16);
        faulty("rota 0;plain 1 1;rota 0;", 4, 17);
        taken("barrow 1 1;rota;", 2);
        taken("rota;barrow 1 1;", 2);
        Edge.promise(4, "4 barrow, rota for the second time: not in the text before");
        BarrowGrief x = Edge.told("barrow 1 1;rota;");
        Edge.feed(x, "rota;barrow 2 2;");
        Edge.due(2, x, "text");
        Edge.feed(x, "barrow 3 3;rota;rota;");
        Edge.due(-26, x, "text");
        Edge.feed(x, "rota;barrow 4 4;");
        Edge.due(2, x, "text");
    }

    private static void theSixthOne() {
        Edge.promise(4, "PEOPLE 0 on (5 at most, by order); 5 the 6th ONE (its NAME)");
        taken(FIVE, 5);
        String[] names = {"plain", "stout", "child", "widow"};
        for (String name : names) {
            faulty(FIVE + name + " 1 1;", 5, 50);
            faulty(FIVE + "  " + name, 5, 52);
        }
        faulty(FIVE + "rota;plain 1 1;", 5, 55);
        Edge.promise(4, "5 the 6th ONE: not with those of the text before");
        BarrowGrief x = Edge.told(FIVE);
        Edge.feed(x, FIVE);
        Edge.due(5, x, "text");
        Edge.due(5, x, "rule", 0);
    }

    private static void theNinthTurn() {
        Edge.promise(4, "TURNS (8 at most); 5 a 9th TURN (its NUMBER, whether it is one or not)");
        taken("plain 1 1;rota 0 0 0 0 0 0 0 0;", 2);
        faulty("plain 1 1;rota 0 0 0 0 0 0 0 0 0;", 5, 31);
        faulty("plain 1 1;rota 0 0 0 0 0 0 0 0 4;", 5, 31);
        faulty("plain 1 1;rota 0 0 0 0 0 0 0 0 5;", 5, 31);
        faulty("plain 1 1;rota 0 0 0 0 0 0 0 0 99", 5, 31);
        faulty("rota 4 4 4 4 4 4 4 4 0;", 5, 21);
        Edge.promise(4, "5 a 9th TURN: an 8th is looked at by its bounds");
        faulty("rota 0 0 0 0 0 0 0 5 0;", 3, 19);
    }

    private static void onesThatThereAreNot() {
        Edge.promise(4, "Behind all (the length): 6 a ONE that there is not");
        faulty("rota 0;", 6, 7);
        faulty("rota 0; ", 6, 8);
        taken("plain 1 1;rota 0;", 2);
        faulty("plain 1 1;rota 1;", 6, 17);
        taken("rota 0;plain 1 1;", 2);
        faulty("rota 1;plain 1 1;", 6, 17);
        taken("rota 1;plain 1 1;plain 1 1;", 3);
        faulty("plain 1 1;plain 1 1;plain 1 1;plain 1 1;rota 4;", 6, 47);
        faulty("plain 1 1;rota 0 0 0 0 0 0 0 1;", 6, 31);
        taken(FIVE + "rota 4;", 6);
        Edge.promise(4, "6 a ONE that there is not: those of before are none");
        BarrowGrief x = Edge.told(FIVE);
        Edge.feed(x, "plain 1 1;rota 1;");
        Edge.due(-27, x, "text");
        Edge.due(6, x, "fault");
        Edge.due(5, x, "rule", 0);
    }

    private static void theFirstFaultMet() {
        Edge.promise(4, "FAULTS, the first met as it is read (a TOKEN is read when the one before has been taken)");
        faulty("x A", 2, 0);
        faulty("xA", 2, 0);
        faulty("; 100", 2, 0);
        faulty("plain ; A", 2, 6);
        faulty("plain A ;", 1, 6);
        faulty("plain 1 0A", 3, 8);
        faulty("plain 1 0 x", 3, 8);
        faulty("barrow 0 A", 3, 7);
        faulty("rota 5 A", 3, 5);
        faulty("rota 5 100", 3, 5);
        faulty("barrow 1 1;barrow A", 4, 11);
        faulty("rota;rota 100", 4, 5);
        faulty(FIVE + "plain A", 5, 50);
        faulty(FIVE + "plain 1 0;", 5, 50);
        faulty("rota 0 0 0 0 0 0 0 0 0A", 5, 21);
        faulty("rota 0 0 0 0 0 0 0 0 100", 1, 21);
        faulty("rota 0 0 0 0 0 0 0 0 A", 1, 21);
        faulty("rota 0 0 0 0 0 0 0 0 x", 2, 21);
        faulty("rota 4;x", 2, 7);
        faulty("rota 4;A", 1, 7);
        faulty("rota 4;plain 1 0;", 3, 15);
        faulty("rota 4;rota", 4, 7);
        faulty("rota 0;plain", 2, 12);
    }

    private static void tokensWithoutBlanks() {
        Edge.promise(4, "TOKENS, each as long as may be, blanks (32) between");
        BarrowGrief x = Edge.told("plain8 5;rota0;barrow12 1;");
        Edge.due(8, x, "one", 0, 1);
        Edge.due(1, x, "rule", 5);
        Edge.due(12, x, "rule", 3);
        Edge.tell(x, "  plain   8    05   ;   rota   0  0 ;  ");
        Edge.due(5, x, "one", 0, 2);
        Edge.due(2, x, "rule", 5);
        faulty("plain 85;", 2, 8);
        faulty("plain 1 1;rota 00 000;", 1, 18);
        faulty("pla in 1 1;", 2, 0);
        faulty("8plain", 2, 0);
        taken("plain 8 5;rota 0 00 0;", 2);
    }

    private static void placesUpTo160() {
        Edge.promise(4, "THE TAPE has 160 bytes, places from 0; -10 less the place of its FAULT");
        taken(" ".repeat(150) + "plain 1 1;", 1);
        taken("plain 1 1;" + " ".repeat(150), 1);
        faulty(" ".repeat(159) + "A", 1, 159);
        faulty(" ".repeat(159) + ";", 2, 159);
        faulty(" ".repeat(159) + "a", 2, 159);
        faulty(" ".repeat(158) + "12", 2, 158);
        faulty(" ".repeat(157) + "123", 1, 157);
        faulty(" ".repeat(156) + "rota", 2, 160);
        faulty("rota" + " ".repeat(156), 2, 160);
        faulty(" ".repeat(151) + "plain 1 1", 2, 160);
        faulty(" ".repeat(152) + "plain 12", 2, 160);
        faulty(" ".repeat(152) + "rota 0 ;", 6, 160);
        faulty("rota 0;" + " ".repeat(153), 6, 160);
    }

    private static void textTellsAll() {
        Edge.promise(4, "A text that is taken tells all, in place of what there was; nothing is SEEN; IMAGES are gone");
        BarrowGrief x = Edge.full();
        // The tape has "stout 6 7;rota 0;".
        Edge.due(2, x, "text");
        Edge.due(0, x, "count", 2);
        int[] rule = {1, 0, 0, 30, 6, 1, 0};
        for (int what = 0; what < rule.length; what++) {
            Edge.due(rule[what], x, "rule", what);
        }
        Edge.due(BAD, x, "one", 1, 0);
        Edge.due(BAD, x, "turn", 1);
        Edge.due(0, x, "count", 0);
        Edge.due(0, x, "count", 1);
        Edge.due(STATE, x, "back", 0);
        Edge.due(STATE, x, "back", 1);
        Edge.due(15, x, "kinds", 0);
        Edge.promise(4, "A text that is taken: SHEETS and torn() are not told by it");
        Edge.due(6, x, "count", 3);
        Edge.due(2, x, "torn");
        Edge.due(1, x, "read", 0, 0, 0, 1);
        Edge.due(10, x, "one", 0, 1);
    }

    private static void faultLeavesWhatWasTold() {
        Edge.promise(4, "THE TAPE (empty then); -10 less the place of its FAULT: that which was told stays");
        String[] texts = {"child 3 3;barrow 5 5;rota 0 0;A", "child 3 3;barrow 5 5;rota 0 0;x",
            "child 3 3;barrow 5 5;rota 0 0 5", "child 3 3;barrow 5 5;rota 0 0;rota;", "child 3 3;rota 0 0 0 0 0 0 0 0 0",
            "rota 0;" + FIVE + "plain", "child 3 3;barrow 5 5;rota 0 1;"};
        int[] faults = {1, 2, 3, 4, 5, 5, 6};
        int[] places = {30, 30, 30, 30, 31, 57, 30};
        BarrowGrief untold = Edge.full();
        Edge.call(untold, "end", 0);
        List<String> want = Edge.but("fault()", Edge.everything(untold));
        for (int i = 0; i < texts.length; i++) {
            BarrowGrief x = Edge.full();
            Edge.call(x, "end", 0);
            Edge.feed(x, texts[i]);
            Edge.due(-10 - places[i], x, "text");
            Edge.due(faults[i], x, "fault");
            Edge.same("behind \"" + texts[i] + "\"", Edge.but("fault()", Edge.everything(x)), want);
        }
    }

    private static void faultOfTheLatest() {
        Edge.promise(5, "The FAULT of the latest text(); 0");
        BarrowGrief x = new BarrowGrief();
        Edge.due(0, x, "fault");
        String[] texts = {"A", "x", "barrow 0 0;", "rota;rota;", "rota 0 0 0 0 0 0 0 0 0;", "rota 0;", "plain 1 1;"};
        int[] faults = {1, 2, 3, 4, 5, 6, 0};
        for (int i = 0; i < texts.length; i++) {
            Edge.feed(x, texts[i]);
            Edge.due(i == 0 ? 0 : faults[i - 1], x, "fault");
            Edge.call(x, "text");
            Edge.due(faults[i], x, "fault");
            Edge.due(faults[i], x, "fault");
        }
        Edge.promise(5, "The FAULT of the latest text(), whatever was called behind it");
        Edge.feed(x, "rota 0 0 0 0 0 0 0 0 0;");
        Edge.due(-31, x, "text");
        String[][] calls = {{"feed", "200"}, {"feed", "65"}, {"end", "0"}, {"keep", "0"}, {"back", "0"}, {"hours", "1"},
            {"rota", "7"}, {"cut", "9"}, {"most", "9"}, {"forget", "0"}};
        for (String[] c : calls) {
            Edge.call(x, c[0], Integer.parseInt(c[1]));
            Edge.due(5, x, "fault");
        }
        Edge.call(x, "read", 0, 0, 0, 1);
        Edge.due(5, x, "fault");
        Edge.promise(5, "The FAULT of the latest text(), that of nothing too");
        Edge.due(0, x, "text");
        Edge.due(0, x, "fault");
        Edge.still(2, Edge::full, "fault");
    }

    // ---- promises 6 to 8

    private static final String HEAVIEST = "plain 99 99;stout 99 99;child 99 99;widow 99 99;plain 99 99;barrow 99 99;"
        + "rota 4 0 0 0 0 0 0 3;";

    private static void rules() {
        Edge.promise(6, "0 PEOPLE, 1 HOUR, 2 LOAD, 3 what THE BARROW TAKES, 4 ALL, 5 TURNS, 6 whose TURN it is. BAD");
        BarrowGrief x = Edge.told(HEAVIEST);
        int[] due = {5, 0, 99, 99, 6 * 99, 8, 4};
        for (int what = 0; what < due.length; what++) {
            Edge.due(due[what], x, "rule", what);
            Edge.still(due[what], () -> Edge.told(HEAVIEST), "rule", what);
        }
        Edge.bad(Edge::full, 0, new int[] {MIN, -1, 7, 10, MAX}, "rule", 0);
        Edge.bad(BarrowGrief::new, 0, new int[] {MIN, -1, 7, MAX}, "rule", 0);
    }

    private static void whoseTurnItIs() {
        Edge.promise(6, "whose TURN it is: of TURN HOUR modulo how many TURNS there are (NONE)");
        BarrowGrief x = Edge.told("plain 0 9;plain 0 9;plain 0 9;");
        Edge.due(NONE, x, "rule", 6);
        Edge.call(x, "rota", 2);
        Edge.due(2, x, "rule", 6);
        Edge.call(x, "rota", 0);
        Edge.call(x, "rota", 1);
        int[] whose = {2, 0, 1, 2, 0, 1, 2};
        for (int hour = 0; hour < whose.length; hour++) {
            Edge.due(hour, x, "rule", 1);
            Edge.due(whose[hour], x, "rule", 6);
            Edge.call(x, "hours", 1);
        }
        // HOUR 7 is TURN 1 of 3, of 2 and of 6, TURN 0 of 1.
        Edge.due(0, x, "rule", 6);
        Edge.call(x, "cut", 2);
        Edge.due(0, x, "rule", 6);
        Edge.call(x, "cut", 1);
        Edge.due(2, x, "rule", 6);
        Edge.call(x, "cut", 0);
        Edge.due(NONE, x, "rule", 6);
        Edge.due(NONE, new BarrowGrief(), "rule", 6);
    }

    private static void ones() {
        Edge.promise(7, "Of a ONE: 0 KIND, 1 GRIEF, 2 what he BEARS, 3 HAND, 4 how many TURNS he has. BAD");
        BarrowGrief x = Edge.told("plain 0 1;stout 99 99;child 7 8;widow 6 5;rota 0 3 0 0 2 0 0 0;");
        int[][] due = {{0, 0, 1, 4, 6, 0}, {1, 99, 99, 8, 0, 0}, {2, 7, 8, 2, 1, 0}, {3, 6, 5, 5, 1, 0}};
        for (int p = 0; p < due.length; p++) {
            for (int what = 0; what < due[p].length; what++) {
                Edge.due(due[p][what], x, "one", p, what);
            }
        }
        Edge.due(BAD, x, "one", 4, 0);
        Edge.call(x, "cut", 0);
        Edge.due(0, x, "one", 0, 4);
        for (int i = 1; i <= 8; i++) {
            Edge.call(x, "rota", 3);
            Edge.due(i, x, "one", 3, 4);
        }
        for (int what = 0; what < 6; what++) {
            Edge.bad(Edge::full, 0, new int[] {MIN, -1, 5, MAX}, "one", 0, what);
            Edge.bad(BarrowGrief::new, 0, new int[] {-1, 0}, "one", 0, what);
        }
        for (int p = 0; p < 5; p++) {
            Edge.bad(Edge::full, 1, new int[] {MIN, -1, 6, MAX}, "one", p, 0);
        }
    }

    /** What is healed of each LOAD from 0 to 9 and from 15 on, by KIND. */
    private static void handsAndHeals() {
        Edge.promise(7, "5 what he would HEAL of the LOAD as it is: a quarter (down), half (down), all of it at most");
        int[][] heals = {{0, 0, 0, 0, 0}, {1, 0, 0, 1, 1}, {2, 0, 0, 1, 1}, {3, 0, 0, 1, 1}, {4, 1, 0, 2, 1}, {5, 1, 0, 2, 1},
            {6, 1, 0, 2, 1}, {7, 1, 0, 2, 1}, {8, 2, 1, 3, 3}, {9, 2, 1, 3, 3}, {15, 3, 1, 4, 3}, {16, 4, 2, 5, 5},
            {95, 23, 11, 24, 23}, {96, 24, 12, 25, 25}, {98, 24, 12, 25, 25}, {99, 24, 12, 25, 25}};
        BarrowGrief x = Edge.told("plain 9 1;stout 9 1;child 9 1;widow 9 1;barrow 1 0;rota 0;");
        for (int[] row : heals) {
            Edge.call(x, "load", row[0]);
            for (int p = 0; p < 4; p++) {
                Edge.due(row[p + 1], x, "one", p, 5);
            }
        }
        Edge.promise(7, "HAND by KIND: plain 4; stout twice that; child half of that; widow 3 less than a stout one");
        int[] hands = {4, 8, 2, 5};
        for (int k = 0; k < 4; k++) {
            Edge.call(x, "alter", 0, 0, k);
            Edge.due(hands[k], x, "one", 0, 3);
        }
    }

    private static void turns() {
        Edge.promise(8, "Whose a TURN is. BAD");
        BarrowGrief x = Edge.told(HEAVIEST);
        int[] due = {4, 0, 0, 0, 0, 0, 0, 3};
        for (int i = 0; i < due.length; i++) {
            Edge.due(due[i], x, "turn", i);
        }
        Edge.due(BAD, x, "turn", 8);
        Edge.due(8, x, "cut", 7);
        Edge.due(BAD, x, "turn", 7);
        Edge.due(0, x, "turn", 6);
        Edge.due(7, x, "cut", 1);
        Edge.due(BAD, x, "turn", 1);
        Edge.due(4, x, "turn", 0);
        Edge.due(1, x, "cut", 0);
        Edge.due(BAD, x, "turn", 0);
        Edge.bad(Edge::full, 0, new int[] {MIN, -1, 4, 7, 8, MAX}, "turn", 0);
        Edge.bad(BarrowGrief::new, 0, new int[] {MIN, -1, 0, MAX}, "turn", 0);
    }
}
