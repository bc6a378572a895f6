/** What the tests share: answers that are due, counted where they are not as due. */
final class Due {
    private static int wrong = 0;
    private static int asked = 0;

    private Due() {
    }

    static void due(String call, long got, long want) {
        asked++;
        if (got != want) {
            wrong++;
            System.out.println(call + " answered " + got + ", due is " + want);
        }
    }

    /** Feeds a text without asking for it to be told. */
    static void feed(BarrowGrief x, String text) {
        for (int i = 0; i < text.length(); i++) {
            x.feed(text.charAt(i));
        }
    }

    static BarrowGrief told(String text) {
        BarrowGrief x = new BarrowGrief();
        feed(x, text);
        int lines = x.text();
        if (lines < 0) {
            wrong++;
            System.out.println("\"" + text + "\" was not taken: " + lines);
        }
        return x;
    }

    /** GRIEF of all by order, LOAD, HOUR: a short way to see that nothing, or just what is due, has changed. */
    static String state(BarrowGrief x) {
        StringBuilder s = new StringBuilder();
        for (int p = 0; p < x.rule(0); p++) {
            s.append(x.one(p, 0)).append(':').append(x.one(p, 1)).append('/').append(x.one(p, 2)).append(' ');
        }
        s.append("load ").append(x.rule(2)).append(" of ").append(x.rule(3)).append(" hour ").append(x.rule(1));
        s.append(" rota");
        for (int i = 0; i < x.rule(5); i++) {
            s.append(' ').append(x.turn(i));
        }
        s.append(" seen ").append(x.count(0)).append(" images ").append(x.count(1));
        s.append(" tape ").append(x.count(2)).append(" sheet ").append(x.count(3)).append(" torn ").append(x.torn());
        return s.toString();
    }

    static void same(String call, String got, String want) {
        asked++;
        if (!got.equals(want)) {
            wrong++;
            System.out.println(call + " left \"" + got + "\", due is \"" + want + "\"");
        }
    }

    static void finish() {
        System.out.println(wrong == 0 ? asked + " answers are as due" : wrong + " of " + asked + " answers are not as due");
        if (wrong != 0) {
            System.exit(1);
        }
    }
}
