import java.math.BigInteger;
import java.util.ArrayList;
import java.util.Arrays;
import java.util.List;
import java.util.TreeMap;
import java.util.regex.Matcher;
import java.util.regex.Pattern;

/**
 * The document once more, told otherwise and without regard to cost, so that ModelTest can hold the class against it.
 * Here the machine itself finds the faults of the sheets.
 */
final class Model {
    private static final String[] KINDS = {"plain", "stout", "child", "widow"};

    private static final class One {
        int kind;
        int grief;
        int bears;

        One(int kind, int grief, int bears) {
            this.kind = kind;
            this.grief = grief;
            this.bears = bears;
        }
    }

    private static final class Town {
        final List<One> people = new ArrayList<>();
        final List<Integer> rota = new ArrayList<>();
        int takes = 30;
        int load = 0;
        int hour = 0;
        int healed = 0;
        int spilt = 0;

        Town copy() {
            Town t = new Town();
            for (One o : people) {
                t.people.add(new One(o.kind, o.grief, o.bears));
            }
            t.rota.addAll(rota);
            t.takes = takes;
            t.load = load;
            t.hour = hour;
            return t;
        }

        int all() {
            return load + people.stream().mapToInt(o -> o.grief).sum();
        }

        void hourOf(int p) {
            One o = people.get(p);
            int hand = hand(o.kind);
            while (hand > 0 && o.grief > 0 && load < takes) {
                hand--;
                o.grief--;
                load++;
            }
            int heals = heals(o.kind, load);
            load -= heals;
            healed += heals;
            int next = p;
            while (load > o.bears) {
                load--;
                spilt++;
                next = (next + 1) % people.size();
                if (people.get(next).grief < 99) {
                    people.get(next).grief++;
                }
            }
        }

        Town passed(int n) {
            Town t = copy();
            for (int i = 0; i < n; i++) {
                t.pass();
            }
            return t;
        }

        void pass() {
            if (!rota.isEmpty()) {
                hourOf(rota.get(hour % rota.size()));
            }
            hour++;
        }
    }

    private record Sight(int n, int p, int g) {
    }

    private record Image(Town town, List<Sight> seen) {
    }

    private record Token(char type, int place, String text) {
    }

    private static final class Fault extends RuntimeException {
        private static final long serialVersionUID = 1L;
        final int fault;
        final int place;

        Fault(int fault, int place) {
            this.fault = fault;
            this.place = place;
        }
    }

    private Town town = new Town();
    private List<Sight> seen = new ArrayList<>();
    private final Image[] images = new Image[2];
    private final Object[] sheets = new Object[4];
    private String tape = "";
    private int fault = 0;
    private int torn = 0;

    static int hand(int kind) {
        return switch (kind) {
            case 0 -> 4;
            case 1 -> 2 * hand(0);
            case 2 -> hand(0) / 2;
            default -> hand(1) - 3;
        };
    }

    static int heals(int kind, int load) {
        int much = switch (kind) {
            case 0 -> load / 4;
            case 1 -> heals(0, load) / 2;
            case 2 -> 1 + heals(0, load);
            default -> 1 + 2 * heals(1, load);
        };
        return Math.min(much, load);
    }

    private static boolean out(int v, int low, int high) {
        return v < low || v > high;
    }

    private boolean no(int p) {
        return p < 0 || p >= town.people.size();
    }

    // ---- the text

    int feed(int c) {
        if (out(c, 0, 127)) {
            return -1;
        }
        if (tape.length() == 160) {
            return -3;
        }
        tape += (char) c;
        return tape.length();
    }

    int end(int n) {
        if (out(n, 0, tape.length())) {
            return -1;
        }
        int had = tape.length();
        tape = tape.substring(0, n);
        return had;
    }

    int text() {
        String told = tape;
        tape = "";
        try {
            int[] lines = {0};
            town = read(told, lines);
            seen = new ArrayList<>();
            Arrays.fill(images, null);
            fault = 0;
            return lines[0];
        } catch (Fault f) {
            fault = f.fault;
            return -10 - f.place;
        }
    }

    private static final Pattern TOKEN = Pattern.compile(" *(?:([a-z]+)|([0-9]+)|(;)|$)");

    private static Token token(String s, int from) {
        Matcher m = TOKEN.matcher(s).region(from, s.length());
        if (!m.lookingAt()) {
            int at = from;
            while (s.charAt(at) == ' ') {
                at++;
            }
            throw new Fault(1, at);
        }
        if (m.group(1) != null) {
            return new Token('a', m.start(1), m.group(1));
        }
        if (m.group(2) != null) {
            if (m.group(2).length() > 2) {
                throw new Fault(1, m.start(2));
            }
            return new Token('0', m.start(2), m.group(2));
        }
        if (m.group(3) != null) {
            return new Token(';', m.start(3), ";");
        }
        return new Token('$', s.length(), "");
    }

    private static Token behind(String s, Token t) {
        return token(s, t.place + t.text.length());
    }

    private static Token number(String s, Token before, int low) {
        Token t = behind(s, before);
        if (t.type != '0') {
            throw new Fault(2, t.place);
        }
        if (Integer.parseInt(t.text) < low) {
            throw new Fault(3, t.place);
        }
        return t;
    }

    private static Town read(String s, int[] lines) {
        Town t = new Town();
        boolean barrow = false;
        boolean rota = false;
        for (Token name = token(s, 0); name.type != '$';) {
            int kind = Arrays.asList(KINDS).indexOf(name.text);
            Token last;
            if (kind >= 0) {
                if (t.people.size() == 5) {
                    throw new Fault(5, name.place);
                }
                Token grief = number(s, name, 0);
                Token bears = number(s, grief, 1);
                t.people.add(new One(kind, Integer.parseInt(grief.text), Integer.parseInt(bears.text)));
                last = behind(s, bears);
            } else if (name.text.equals("barrow")) {
                if (barrow) {
                    throw new Fault(4, name.place);
                }
                barrow = true;
                Token takes = number(s, name, 1);
                Token load = number(s, takes, 0);
                t.takes = Integer.parseInt(takes.text);
                t.load = Integer.parseInt(load.text);
                last = behind(s, load);
            } else if (name.text.equals("rota")) {
                if (rota) {
                    throw new Fault(4, name.place);
                }
                rota = true;
                last = behind(s, name);
                while (last.type == '0') {
                    if (t.rota.size() == 8) {
                        throw new Fault(5, last.place);
                    }
                    if (Integer.parseInt(last.text) > 4) {
                        throw new Fault(3, last.place);
                    }
                    t.rota.add(Integer.parseInt(last.text));
                    last = behind(s, last);
                }
            } else {
                throw new Fault(2, name.place);
            }
            if (last.type != ';') {
                throw new Fault(2, last.place);
            }
            lines[0]++;
            name = behind(s, last);
        }
        for (int p : t.rota) {
            if (p >= t.people.size()) {
                throw new Fault(6, s.length());
            }
        }
        return t;
    }

    int fault() {
        return fault;
    }

    int rule(int what) {
        return switch (what) {
            case 0 -> town.people.size();
            case 1 -> town.hour;
            case 2 -> town.load;
            case 3 -> town.takes;
            case 4 -> town.all();
            case 5 -> town.rota.size();
            case 6 -> town.rota.isEmpty() ? -4 : town.rota.get(town.hour % town.rota.size());
            default -> -1;
        };
    }

    int one(int p, int what) {
        if (no(p)) {
            return -1;
        }
        One o = town.people.get(p);
        return switch (what) {
            case 0 -> o.kind;
            case 1 -> o.grief;
            case 2 -> o.bears;
            case 3 -> hand(o.kind);
            case 4 -> (int) town.rota.stream().filter(q -> q == p).count();
            case 5 -> heals(o.kind, town.load);
            default -> -1;
        };
    }

    int turn(int i) {
        return i < 0 || i >= town.rota.size() ? -1 : town.rota.get(i);
    }

    // ---- what is changed

    int alter(int p, int what, int v) {
        if (no(p) || out(what, 0, 2)) {
            return -1;
        }
        One o = town.people.get(p);
        int was = one(p, what);
        if (what == 0) {
            if (out(v, 0, 3)) {
                return -1;
            }
            o.kind = v;
        } else if (what == 1) {
            if (out(v, 0, 99)) {
                return -1;
            }
            o.grief = v;
        } else {
            if (out(v, 1, 99)) {
                return -1;
            }
            o.bears = v;
        }
        return was;
    }

    int takes(int v) {
        int was = town.takes;
        if (out(v, 1, 99)) {
            return -1;
        }
        town.takes = v;
        return was;
    }

    int load(int v) {
        int was = town.load;
        if (out(v, 0, 99)) {
            return -1;
        }
        town.load = v;
        return was;
    }

    int rota(int p) {
        if (no(p)) {
            return -1;
        }
        if (town.rota.size() == 8) {
            return -3;
        }
        town.rota.add(p);
        return town.rota.size();
    }

    int cut(int n) {
        int had = town.rota.size();
        if (out(n, 0, had)) {
            return -1;
        }
        town.rota.subList(n, had).clear();
        return had;
    }

    // ---- hours

    int hours(int n) {
        if (out(n, 0, 30)) {
            return -1;
        }
        if (town.hour + n >= 1000) {
            return -3;
        }
        town = town.passed(n);
        return town.healed;
    }

    int runs(int n, int what) {
        if (out(n, 0, 60) || out(what, 0, 4)) {
            return -1;
        }
        Town then = town.passed(n);
        int first = -4;
        int greatest = 0;
        for (int h = 0; h <= n; h++) {
            Town t = town.passed(h);
            greatest = Math.max(greatest, t.load);
            if (first == -4 && t.spilt > 0) {
                first = h;
            }
        }
        return new int[] {then.all(), then.healed, then.spilt, first, greatest}[what];
    }

    int ahead(int p, int n) {
        return no(p) || out(n, 0, 60) ? -1 : town.passed(n).people.get(p).grief;
    }

    int under(int w) {
        if (out(w, 0, 999)) {
            return -1;
        }
        for (int h = 0; h <= 60; h++) {
            if (town.passed(h).all() <= w) {
                return h;
            }
        }
        return -4;
    }

    int light(int p) {
        if (no(p)) {
            return -1;
        }
        for (int h = 0; h <= 60; h++) {
            if (town.passed(h).people.get(p).grief == 0) {
                return h;
            }
        }
        return -4;
    }

    // ---- what is best

    /** All orders by the places of the turns, equal ones as often as they come. */
    private static void orders(List<Integer> from, List<Integer> row, List<List<Integer>> into) {
        if (from.isEmpty()) {
            into.add(new ArrayList<>(row));
        }
        for (int i = 0; i < from.size(); i++) {
            List<Integer> rest = new ArrayList<>(from);
            row.add(rest.remove(i));
            orders(rest, row, into);
            row.remove(row.size() - 1);
        }
    }

    int order(int what) {
        if (what != 0 && out(what, 10, 14)) {
            return -1;
        }
        if (town.rota.size() > 5) {
            return -2;
        }
        List<List<Integer>> rows = new ArrayList<>();
        orders(town.rota, new ArrayList<>(), rows);
        TreeMap<String, List<Integer>> best = new TreeMap<>();
        for (List<Integer> r : rows) {
            Town t = town.copy();
            t.rota.clear();
            t.rota.addAll(r);
            best.put(String.format("%05d", t.passed(24).all()) + r, r);
        }
        if (what == 0) {
            return Integer.parseInt(best.firstKey().substring(0, 5));
        }
        List<Integer> row = best.firstEntry().getValue();
        return what - 10 < row.size() ? row.get(what - 10) : -4;
    }

    int extra(int n, int what) {
        if (out(n, 0, 60) || out(what, 0, 1)) {
            return -1;
        }
        if (town.rota.size() == 8) {
            return -3;
        }
        TreeMap<Integer, Integer> best = new TreeMap<>();
        for (int p = 0; p < town.people.size(); p++) {
            Town t = town.copy();
            t.rota.add(p);
            best.putIfAbsent(t.passed(n).all(), p);
        }
        return best.isEmpty() ? -4 : what == 0 ? best.firstEntry().getValue() : best.firstKey();
    }

    int spare(int n, int what) {
        if (out(n, 0, 60) || out(what, 0, 1)) {
            return -1;
        }
        TreeMap<Integer, Integer> best = new TreeMap<>();
        best.put(town.passed(n).spilt, -4);
        for (int i = 0; i < town.rota.size(); i++) {
            Town t = town.copy();
            t.rota.remove(i);
            best.putIfAbsent(t.passed(n).spilt, i);
        }
        int which = best.firstEntry().getValue();
        return what == 0 || which == -4 ? which : best.firstKey();
    }

    int swap(int n, int what) {
        if (out(n, 0, 60) || out(what, 0, 1)) {
            return -1;
        }
        TreeMap<Integer, Integer> best = new TreeMap<>();
        best.put(town.passed(n).all(), -4);
        for (int two = 0; two < 80; two++) {
            int i = two / 10;
            int j = two % 10;
            if (i < j && j < town.rota.size()) {
                Town t = town.copy();
                t.rota.set(i, town.rota.get(j));
                t.rota.set(j, town.rota.get(i));
                best.putIfAbsent(t.passed(n).all(), two);
            }
        }
        int which = best.firstEntry().getValue();
        return what == 0 || which == -4 ? which : best.firstKey();
    }

    int most(int n) {
        if (out(n, 0, 60)) {
            return -1;
        }
        int most = -4;
        for (int v = 1; v <= 99; v++) {
            Town t = town.copy();
            t.takes = v;
            if (t.passed(n).spilt == 0) {
                most = v;
            }
        }
        return most;
    }

    int need(int p, int n) {
        if (no(p) || out(n, 0, 60)) {
            return -1;
        }
        int least = -4;
        for (int v = 99; v >= 1; v--) {
            Town t = town.copy();
            t.people.get(p).bears = v;
            if (t.passed(n).spilt == 0) {
                least = v;
            }
        }
        return least;
    }

    private Town ofKind(int p, int kind) {
        Town t = town.copy();
        t.people.get(p).kind = kind;
        return t;
    }

    int kind(int p, int n, int what) {
        if (no(p) || out(n, 0, 60) || out(what, 0, 1)) {
            return -1;
        }
        TreeMap<Integer, Integer> best = new TreeMap<>();
        for (int k = 0; k < 4; k++) {
            best.putIfAbsent(ofKind(p, k).passed(n).all(), k);
        }
        return what == 0 ? best.firstEntry().getValue() : best.firstKey();
    }

    // ---- hours that are forgotten

    /** How often out of ten to the n each ALL comes. */
    private static void odds(Town t, int v, int n, BigInteger weight, TreeMap<Integer, BigInteger> into) {
        if (n == 0) {
            into.merge(t.all(), weight, BigInteger::add);
            return;
        }
        Town forgotten = t.copy();
        forgotten.hour++;
        odds(forgotten, v, n - 1, weight.multiply(BigInteger.valueOf(v)), into);
        odds(t.passed(1), v, n - 1, weight.multiply(BigInteger.valueOf(10 - v)), into);
    }

    private static long lowest(BigInteger top, int n, int what) {
        BigInteger bottom = BigInteger.TEN.pow(n);
        BigInteger shared = top.gcd(bottom);
        return (what == 0 ? top : bottom).divide(shared).longValueExact();
    }

    long luck(int v, int n, int w, int what) {
        if (out(v, 0, 10) || out(n, 0, 8) || out(w, 0, 999) || out(what, 0, 1)) {
            return -1;
        }
        TreeMap<Integer, BigInteger> odds = new TreeMap<>();
        odds(town, v, n, BigInteger.ONE, odds);
        BigInteger sum = odds.headMap(w, true).values().stream().reduce(BigInteger.ZERO, BigInteger::add);
        return lowest(sum, n, what);
    }

    long mean(int v, int n, int what) {
        if (out(v, 0, 10) || out(n, 0, 8) || out(what, 0, 1)) {
            return -1;
        }
        TreeMap<Integer, BigInteger> odds = new TreeMap<>();
        odds(town, v, n, BigInteger.ONE, odds);
        BigInteger sum = odds.entrySet().stream().map(e -> e.getValue().multiply(BigInteger.valueOf(e.getKey())))
            .reduce(BigInteger.ZERO, BigInteger::add);
        return lowest(sum, n, what);
    }

    // ---- from who was how heavy when

    int see(int n, int p, int g) {
        if (out(n, 0, 24) || no(p) || out(g, 0, 99)) {
            return -1;
        }
        if (seen.size() == 6) {
            return -3;
        }
        seen.add(new Sight(n, p, g));
        return seen.size();
    }

    int forget(int n) {
        int had = seen.size();
        if (out(n, 0, had)) {
            return -1;
        }
        seen = new ArrayList<>(seen.subList(0, n));
        return had;
    }

    private boolean asSeen(Town t, List<Sight> sights) {
        return sights.stream().allMatch(s -> t.passed(s.n).people.get(s.p).grief == s.g);
    }

    private int kindsBy(int p, List<Sight> sights) {
        int bits = 0;
        for (int k = 0; k < 4; k++) {
            bits += asSeen(ofKind(p, k), sights) ? 1 << k : 0;
        }
        return bits;
    }

    int kinds(int p) {
        return no(p) ? -1 : kindsBy(p, seen);
    }

    int griefs(int p) {
        if (no(p)) {
            return -1;
        }
        int bits = 0;
        for (int g = 0; g <= 30; g++) {
            Town t = town.copy();
            t.people.get(p).grief = g;
            bits |= asSeen(t, seen) ? 1 << g : 0;
        }
        return bits;
    }

    /** As one would: each answer that may come is seen, and what is left then is counted. */
    int ask(int p, int what) {
        if (no(p) || out(what, 0, 1)) {
            return -1;
        }
        int fewest = Integer.bitCount(kindsBy(p, seen));
        int best = -4;
        for (int h = 0; h <= 24; h++) {
            for (int q = 0; q < town.people.size(); q++) {
                int worst = 0;
                for (int k = 0; k < 4; k++) {
                    List<Sight> more = new ArrayList<>(seen);
                    more.add(new Sight(h, q, ofKind(p, k).passed(h).people.get(q).grief));
                    worst = Math.max(worst, Integer.bitCount(kindsBy(p, more)));
                }
                if (worst < fewest) {
                    fewest = worst;
                    best = 10 * h + q;
                }
            }
        }
        return what == 0 || best == -4 ? best : fewest;
    }

    // ---- by a seed

    int drift(int seed, int n, int what) {
        if (out(n, 1, 60) || out(what, 0, 1)) {
            return -1;
        }
        int many = town.people.size();
        if (many == 0) {
            return -2;
        }
        Town t = town.copy();
        BigInteger s = BigInteger.valueOf(seed);
        for (int i = 0; i < n; i++) {
            s = s.multiply(BigInteger.valueOf(1103515245)).add(BigInteger.valueOf(12345)).mod(BigInteger.ONE.shiftLeft(32));
            int got = s.shiftRight(16).mod(BigInteger.ONE.shiftLeft(15)).intValueExact();
            One heavier = t.people.get(got / 8 % many);
            heavier.grief = Math.min(99, heavier.grief + got / 64 % 3);
            t.hourOf(got % many);
        }
        return what == 0 ? t.all() : t.spilt;
    }

    // ---- images, sheets

    int keep(int k) {
        if (out(k, 0, 1)) {
            return -1;
        }
        int was = images[k] == null ? 0 : 1;
        images[k] = new Image(town.copy(), new ArrayList<>(seen));
        return was;
    }

    int back(int k) {
        if (out(k, 0, 1)) {
            return -1;
        }
        if (images[k] == null) {
            return -2;
        }
        town = images[k].town.copy();
        seen = new ArrayList<>(images[k].seen);
        return town.hour;
    }

    int sheet(int k, int lane, int n) {
        if (out(k, 0, 3) || out(lane, 0, 2) || n > 40) {
            return -1;
        }
        try {
            sheets[k] = lane == 0 ? new byte[n] : lane == 1 ? (Object) new short[n] : new int[n];
            return 1;
        } catch (NegativeArraySizeException e) {
            return -14;
        }
    }

    int lay(int k, int i, int v) {
        if (out(k, 0, 3)) {
            return -1;
        }
        try {
            if (sheets[k] instanceof byte[] row) {
                row[i] = (byte) v;
            } else if (sheets[k] instanceof short[] row) {
                row[i] = (short) v;
            } else {
                ((int[]) sheets[k])[i] = v;
            }
            return 1;
        } catch (NullPointerException e) {
            return -11;
        } catch (IndexOutOfBoundsException e) {
            return -12;
        }
    }

    int read(int k, int lane, int f, int n) {
        if (out(k, 0, 3) || out(lane, 0, 2) || out(n, 0, 20)) {
            return -1;
        }
        Town before = town.copy();
        int came = 0;
        int found = 0;
        try {
            for (int i = 0; i < n; i++) {
                byte[] bytes = lane == 0 ? (byte[]) sheets[k] : null;
                short[] shorts = lane == 1 ? (short[]) sheets[k] : null;
                int[] ints = lane == 2 ? (int[]) sheets[k] : null;
                int at = f + 2 * i;
                int p = lane == 0 ? bytes[at] : lane == 1 ? shorts[at] : ints[at];
                int g = lane == 0 ? bytes[at + 1] : lane == 1 ? shorts[at + 1] : ints[at + 1];
                if (alter(p, 1, g) < 0) {
                    town = before;
                    return -20 - i;
                }
                came++;
            }
        } catch (NullPointerException e) {
            found = 1;
        } catch (IndexOutOfBoundsException e) {
            found = 2;
        } catch (ClassCastException e) {
            found = 3;
        }
        torn = found;
        return came;
    }

    int torn() {
        return torn;
    }

    int count(int what) {
        return switch (what) {
            case 0 -> seen.size();
            case 1 -> (images[0] == null ? 0 : 1) + (images[1] == null ? 0 : 1);
            case 2 -> tape.length();
            case 3 -> sheets[0] == null ? -4 : java.lang.reflect.Array.getLength(sheets[0]);
            case 4 -> town.people.stream().mapToInt(o -> o.grief).sum();
            case 5 -> town.people.stream().mapToInt(o -> o.bears).sum();
            default -> -1;
        };
    }
}
