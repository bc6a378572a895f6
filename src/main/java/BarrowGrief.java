import java.util.Arrays;

/** Grief that is taken round in a green barrow, by rota. */
public final class BarrowGrief {
    public static final int BAD = -1, STATE = -2, FULL = -3, NONE = -4;

    private static final int MOST_PEOPLE = 5, MOST_TURNS = 8, MOST_BYTES = 160, MOST_SEEN = 6, MOST_CELLS = 40;
    private static final int MOST_PAIRS = 20, KINDS = 4, SHEETS = 4, LANES = 3, IMAGES = 2;
    private static final int HIGHEST = 99, HIGHEST_ALL = 999, HOURS_END = 1000;
    private static final int LONGEST_CALL = 30, FARTHEST = 60, FARTHEST_SEEN = 24, FARTHEST_LUCK = 8;
    private static final int ORDER_HOURS = 24, ORDER_TURNS = 5, ORDERS = 120, HIGHEST_ASKED = 30;
    private static final int FAULT_NULL = 1, FAULT_INDEX = 2, FAULT_CAST = 3, FAULT_SIZE = 4;

    private final World now = new World();
    private final World trial = new World();
    private final World[] guesses = new World[KINDS];
    private final Sights seen = new Sights();
    private final Image[] images = new Image[IMAGES];
    private final Sheet[] sheets = new Sheet[SHEETS];
    private final Tape tape = new Tape();
    private final Reader reader = new Reader(tape, trial);
    private final int[] row = new int[MOST_TURNS];
    private final int[] bestRow = new int[MOST_TURNS];
    private int torn;

    public BarrowGrief() {
        for (int k = 0; k < KINDS; k++) {
            guesses[k] = new World();
        }
        for (int k = 0; k < IMAGES; k++) {
            images[k] = new Image();
        }
        for (int k = 0; k < SHEETS; k++) {
            sheets[k] = new Sheet();
        }
    }

    // ---- the text

    public int feed(int c) {
        if (!within(c, 0, 127)) {
            return BAD;
        }
        if (tape.size >= MOST_BYTES) {
            return FULL;
        }
        tape.bytes[tape.size] = (byte) c;
        tape.size++;
        return tape.size;
    }

    public int end(int n) {
        if (!within(n, 0, tape.size)) {
            return BAD;
        }
        int had = tape.size;
        tape.size = n;
        return had;
    }

    public int text() {
        int told = reader.tell();
        tape.size = 0;
        if (reader.found == 0) {
            now.become(trial);
            seen.size = 0;
            for (int k = 0; k < IMAGES; k++) {
                images[k].kept = false;
            }
        }
        return told;
    }

    public int fault() {
        return reader.found;
    }

    public int rule(int what) {
        switch (what) {
            case 0: return now.people;
            case 1: return now.hour;
            case 2: return now.load;
            case 3: return now.takes;
            case 4: return now.all();
            case 5: return now.turns;
            case 6: return now.whose();
            default: return BAD;
        }
    }

    public int one(int p, int what) {
        if (!now.has(p)) {
            return BAD;
        }
        switch (what) {
            case 0: return now.kind[p];
            case 1: return now.grief[p];
            case 2: return now.bears[p];
            case 3: return World.hand(now.kind[p]);
            case 4: return now.turnsOf(p);
            case 5: return World.heals(now.kind[p], now.load);
            default: return BAD;
        }
    }

    public int turn(int i) {
        return within(i, 0, now.turns - 1) ? now.rota[i] : BAD;
    }

    // ---- what is changed

    public int alter(int p, int what, int v) {
        if (!now.mayAlter(p, what, v)) {
            return BAD;
        }
        int was;
        if (what == 0) {
            was = now.kind[p];
            now.kind[p] = v;
        } else if (what == 1) {
            was = now.grief[p];
            now.grief[p] = v;
        } else {
            was = now.bears[p];
            now.bears[p] = v;
        }
        return was;
    }

    public int takes(int v) {
        if (!within(v, 1, HIGHEST)) {
            return BAD;
        }
        int was = now.takes;
        now.takes = v;
        return was;
    }

    public int load(int v) {
        if (!within(v, 0, HIGHEST)) {
            return BAD;
        }
        int was = now.load;
        now.load = v;
        return was;
    }

    public int rota(int p) {
        if (!now.has(p)) {
            return BAD;
        }
        if (now.turns >= MOST_TURNS) {
            return FULL;
        }
        now.addTurn(p);
        return now.turns;
    }

    public int cut(int n) {
        if (!within(n, 0, now.turns)) {
            return BAD;
        }
        int had = now.turns;
        now.turns = n;
        return had;
    }

    // ---- hours

    public int hours(int n) {
        if (!within(n, 0, LONGEST_CALL)) {
            return BAD;
        }
        if (now.hour + n >= HOURS_END) {
            return FULL;
        }
        now.pass(n);
        return now.healed;
    }

    public int runs(int n, int what) {
        if (!within(n, 0, FARTHEST) || !within(what, 0, 4)) {
            return BAD;
        }
        trial.become(now);
        int firstSpilt = NONE;
        int greatest = trial.load;
        for (int h = 1; h <= n; h++) {
            trial.passOne();
            greatest = Math.max(greatest, trial.load);
            if (firstSpilt == NONE && trial.spilt > 0) {
                firstSpilt = h;
            }
        }
        switch (what) {
            case 0: return trial.all();
            case 1: return trial.healed;
            case 2: return trial.spilt;
            case 3: return firstSpilt;
            default: return greatest;
        }
    }

    public int ahead(int p, int n) {
        if (!now.has(p) || !within(n, 0, FARTHEST)) {
            return BAD;
        }
        trial.become(now);
        trial.pass(n);
        return trial.grief[p];
    }

    public int under(int w) {
        if (!within(w, 0, HIGHEST_ALL)) {
            return BAD;
        }
        trial.become(now);
        for (int h = 0; h <= FARTHEST; h++) {
            if (trial.all() <= w) {
                return h;
            }
            trial.passOne();
        }
        return NONE;
    }

    public int light(int p) {
        if (!now.has(p)) {
            return BAD;
        }
        trial.become(now);
        for (int h = 0; h <= FARTHEST; h++) {
            if (trial.grief[p] == 0) {
                return h;
            }
            trial.passOne();
        }
        return NONE;
    }

    // ---- what is best

    public int order(int what) {
        if (what != 0 && !within(what, 10, 9 + ORDER_TURNS)) {
            return BAD;
        }
        if (now.turns > ORDER_TURNS) {
            return STATE;
        }
        int least = findBestRow();
        if (what == 0) {
            return least;
        }
        return what - 10 < now.turns ? bestRow[what - 10] : NONE;
    }

    public int extra(int n, int what) {
        if (!within(n, 0, FARTHEST) || !within(what, 0, 1)) {
            return BAD;
        }
        if (now.turns >= MOST_TURNS) {
            return FULL;
        }
        int who = NONE;
        int least = NONE;
        for (int p = 0; p < now.people; p++) {
            trial.become(now);
            trial.addTurn(p);
            trial.pass(n);
            if (who == NONE || trial.all() < least) {
                who = p;
                least = trial.all();
            }
        }
        return what == 0 ? who : least;
    }

    public int spare(int n, int what) {
        if (!within(n, 0, FARTHEST) || !within(what, 0, 1)) {
            return BAD;
        }
        trial.become(now);
        trial.pass(n);
        int least = trial.spilt;
        int which = NONE;
        for (int i = 0; i < now.turns; i++) {
            trial.become(now);
            trial.dropTurn(i);
            trial.pass(n);
            if (trial.spilt < least) {
                which = i;
                least = trial.spilt;
            }
        }
        return what == 0 || which == NONE ? which : least;
    }

    public int swap(int n, int what) {
        if (!within(n, 0, FARTHEST) || !within(what, 0, 1)) {
            return BAD;
        }
        trial.become(now);
        trial.pass(n);
        int least = trial.all();
        int which = NONE;
        for (int i = 0; i < now.turns; i++) {
            for (int j = i + 1; j < now.turns; j++) {
                trial.become(now);
                exchange(trial.rota, i, j);
                trial.pass(n);
                if (trial.all() < least) {
                    which = 10 * i + j;
                    least = trial.all();
                }
            }
        }
        return what == 0 || which == NONE ? which : least;
    }

    public int most(int n) {
        if (!within(n, 0, FARTHEST)) {
            return BAD;
        }
        // A barrow that takes less may spill where one that takes more does not, so each is tried.
        for (int v = HIGHEST; v >= 1; v--) {
            trial.become(now);
            trial.takes = v;
            if (trial.passDry(n)) {
                return v;
            }
        }
        return NONE;
    }

    public int need(int p, int n) {
        if (!now.has(p) || !within(n, 0, FARTHEST)) {
            return BAD;
        }
        for (int v = 1; v <= HIGHEST; v++) {
            trial.become(now);
            trial.bears[p] = v;
            if (trial.passDry(n)) {
                return v;
            }
        }
        return NONE;
    }

    public int kind(int p, int n, int what) {
        if (!now.has(p) || !within(n, 0, FARTHEST) || !within(what, 0, 1)) {
            return BAD;
        }
        int best = NONE;
        int least = NONE;
        for (int k = 0; k < KINDS; k++) {
            trial.become(now);
            trial.kind[p] = k;
            trial.pass(n);
            if (best == NONE || trial.all() < least) {
                best = k;
                least = trial.all();
            }
        }
        return what == 0 ? best : least;
    }

    // ---- hours that are forgotten

    public long luck(int v, int n, int w, int what) {
        if (!oddsAreTold(v, n, what) || !within(w, 0, HIGHEST_ALL)) {
            return BAD;
        }
        long sum = 0;
        for (int forgotten = 0; forgotten < (1 << n); forgotten++) {
            long weight = passForgetting(forgotten, v, n);
            if (trial.all() <= w) {
                sum += weight;
            }
        }
        return fraction(sum, tens(n), what);
    }

    public long mean(int v, int n, int what) {
        if (!oddsAreTold(v, n, what)) {
            return BAD;
        }
        long sum = 0;
        for (int forgotten = 0; forgotten < (1 << n); forgotten++) {
            long weight = passForgetting(forgotten, v, n);
            sum += weight * trial.all();
        }
        return fraction(sum, tens(n), what);
    }

    // ---- from who was how heavy when

    public int see(int n, int p, int g) {
        if (!within(n, 0, FARTHEST_SEEN) || !now.has(p) || !within(g, 0, HIGHEST)) {
            return BAD;
        }
        if (seen.size >= MOST_SEEN) {
            return FULL;
        }
        seen.add(n, p, g);
        return seen.size;
    }

    public int forget(int n) {
        if (!within(n, 0, seen.size)) {
            return BAD;
        }
        int had = seen.size;
        seen.size = n;
        return had;
    }

    public int kinds(int p) {
        return now.has(p) ? fittingKinds(p) : BAD;
    }

    public int griefs(int p) {
        if (!now.has(p)) {
            return BAD;
        }
        int bits = 0;
        for (int g = 0; g <= HIGHEST_ASKED; g++) {
            trial.become(now);
            trial.grief[p] = g;
            if (seen.fit(trial)) {
                bits |= 1 << g;
            }
        }
        return bits;
    }

    public int ask(int p, int what) {
        if (!now.has(p) || !within(what, 0, 1)) {
            return BAD;
        }
        int left = fittingKinds(p);
        int fewest = Integer.bitCount(left);
        int best = NONE;
        for (int k = 0; k < KINDS; k++) {
            guesses[k].become(now);
            guesses[k].kind[p] = k;
        }
        for (int h = 0; h <= FARTHEST_SEEN; h++) {
            for (int q = 0; q < now.people; q++) {
                int worst = mostAlike(left, q);
                if (worst < fewest) {
                    fewest = worst;
                    best = 10 * h + q;
                }
            }
            for (int k = 0; k < KINDS; k++) {
                guesses[k].passOne();
            }
        }
        return what == 0 || best == NONE ? best : fewest;
    }

    // ---- by a seed

    public int drift(int seed, int n, int what) {
        if (!within(n, 1, FARTHEST) || !within(what, 0, 1)) {
            return BAD;
        }
        int people = now.people;
        if (people <= 0) {
            return STATE;
        }
        trial.become(now);
        int s = seed;
        for (int h = 0; h < n; h++) {
            s = s * 1103515245 + 12345;
            int got = (s >>> 16) & 0x7fff;
            trial.grieve(got / 8 % people, got / 64 % 3);
            trial.wheel(got % people);
        }
        return what == 0 ? trial.all() : trial.spilt;
    }

    // ---- images, sheets

    public int keep(int k) {
        if (!within(k, 0, IMAGES - 1)) {
            return BAD;
        }
        Image image = images[k];
        int was = image.kept ? 1 : 0;
        image.world.become(now);
        image.seen.become(seen);
        image.kept = true;
        return was;
    }

    public int back(int k) {
        if (!within(k, 0, IMAGES - 1)) {
            return BAD;
        }
        Image image = images[k];
        if (!image.kept) {
            return STATE;
        }
        now.become(image.world);
        seen.become(image.seen);
        return now.hour;
    }

    public int sheet(int k, int lane, int n) {
        if (!within(k, 0, SHEETS - 1) || !within(lane, 0, LANES - 1) || n > MOST_CELLS) {
            return BAD;
        }
        if (n < 0) {
            return -10 - FAULT_SIZE;
        }
        sheets[k].renew(lane, n);
        return 1;
    }

    public int lay(int k, int i, int v) {
        if (!within(k, 0, SHEETS - 1)) {
            return BAD;
        }
        int found = sheets[k].faultAt(i, i);
        if (found != 0) {
            return -10 - found;
        }
        sheets[k].put(i, v);
        return 1;
    }

    public int read(int k, int lane, int f, int n) {
        if (!within(k, 0, SHEETS - 1) || !within(lane, 0, LANES - 1) || !within(n, 0, MOST_PAIRS)) {
            return BAD;
        }
        Sheet s = sheets[k];
        int found = 0;
        int whole = 0;
        while (found == 0 && whole < n) {
            int at = f + 2 * whole;
            // The row is taken anew each time: where nothing is read, no lane can be another.
            found = s.isOther(lane) ? FAULT_CAST : s.faultAt(at, at + 1);
            if (found == 0) {
                if (!now.mayAlter(s.cells[at], 1, s.cells[at + 1])) {
                    return -20 - whole;
                }
                whole++;
            }
        }
        for (int i = 0; i < whole; i++) {
            now.grief[s.cells[f + 2 * i]] = s.cells[f + 2 * i + 1];
        }
        torn = found;
        return whole;
    }

    public int torn() {
        return torn;
    }

    public int count(int what) {
        switch (what) {
            case 0: return seen.size;
            case 1: return (images[0].kept ? 1 : 0) + (images[1].kept ? 1 : 0);
            case 2: return tape.size;
            case 3: return sheets[0].isNothing() ? NONE : sheets[0].size;
            case 4: return World.sum(now.grief, now.people);
            case 5: return World.sum(now.bears, now.people);
            default: return BAD;
        }
    }

    // ---- what the calls share

    private static boolean within(int v, int low, int high) {
        return v >= low && v <= high;
    }

    /** Leaves the best order in bestRow: its ALL. */
    private int findBestRow() {
        int turns = now.turns;
        System.arraycopy(now.rota, 0, row, 0, turns);
        sort(row, turns);
        int least = tryRow(turns);
        System.arraycopy(row, 0, bestRow, 0, turns);
        for (int i = 1; i < ORDERS && stepRow(row, turns); i++) {
            int all = tryRow(turns);
            if (all < least) {
                least = all;
                System.arraycopy(row, 0, bestRow, 0, turns);
            }
        }
        return least;
    }

    private int tryRow(int turns) {
        trial.become(now);
        System.arraycopy(row, 0, trial.rota, 0, turns);
        trial.pass(ORDER_HOURS);
        return trial.all();
    }

    private static void sort(int[] a, int n) {
        for (int i = 0; i < n; i++) {
            for (int j = i + 1; j < n; j++) {
                if (a[j] < a[i]) {
                    exchange(a, i, j);
                }
            }
        }
    }

    /** The next greater order of the first n, equal ones being taken as one; false behind the last. */
    private static boolean stepRow(int[] a, int n) {
        int i = n - 2;
        while (i >= 0 && a[i] >= a[i + 1]) {
            i--;
        }
        if (i < 0) {
            return false;
        }
        int j = n - 1;
        while (j > i && a[j] <= a[i]) {
            j--;
        }
        exchange(a, i, j);
        for (int low = i + 1, high = n - 1; low < high; low++, high--) {
            exchange(a, low, high);
        }
        return true;
    }

    private static void exchange(int[] a, int i, int j) {
        int was = a[i];
        a[i] = a[j];
        a[j] = was;
    }

    private static boolean oddsAreTold(int v, int n, int what) {
        return within(v, 0, 10) && within(n, 0, FARTHEST_LUCK) && within(what, 0, 1);
    }

    /** Passes n hours on trial, but those whose bit is set in forgotten: how often out of 10 to the n it goes so. */
    private long passForgetting(int forgotten, int v, int n) {
        trial.become(now);
        long weight = 1;
        for (int h = 0; h < n; h++) {
            if ((forgotten >> h & 1) == 1) {
                trial.hour++;
                weight *= v;
            } else {
                trial.passOne();
                weight *= 10 - v;
            }
        }
        return weight;
    }

    private static long tens(int n) {
        long value = 1;
        for (int i = 0; i < n; i++) {
            value *= 10;
        }
        return value;
    }

    private static long fraction(long top, long bottom, int what) {
        long shared = divisor(top, bottom);
        if (shared <= 0) {
            return BAD;
        }
        return what == 0 ? top / shared : bottom / shared;
    }

    private static long divisor(long a, long b) {
        long x = a;
        long y = b;
        // Each round halves what is left at least every second time: 130 are enough for any two longs.
        for (int i = 0; i < 130 && y != 0; i++) {
            long rest = x % y;
            x = y;
            y = rest;
        }
        return x;
    }

    private int fittingKinds(int p) {
        int bits = 0;
        for (int k = 0; k < KINDS; k++) {
            trial.become(now);
            trial.kind[p] = k;
            if (seen.fit(trial)) {
                bits |= 1 << k;
            }
        }
        return bits;
    }

    /** Of the guesses whose bit is set in left: how many at most have the same grief of q. */
    private int mostAlike(int left, int q) {
        int greatest = 0;
        for (int a = 0; a < KINDS; a++) {
            int alike = 0;
            for (int b = 0; b < KINDS; b++) {
                if ((left >> a & left >> b & 1) == 1 && guesses[a].grief[q] == guesses[b].grief[q]) {
                    alike++;
                }
            }
            greatest = Math.max(greatest, alike);
        }
        return greatest;
    }

    /** People, barrow, rota and hour, with what was healed and spilt since it became another's like. */
    private static final class World {
        static final int STOUT = 1, CHILD = 2, WIDOW = 3;

        final int[] kind = new int[MOST_PEOPLE];
        final int[] grief = new int[MOST_PEOPLE];
        final int[] bears = new int[MOST_PEOPLE];
        final int[] rota = new int[MOST_TURNS];
        int people;
        int turns;
        int takes = 30;
        int load;
        int hour;
        int healed;
        int spilt;

        void clear() {
            people = 0;
            turns = 0;
            takes = 30;
            load = 0;
            hour = 0;
            healed = 0;
            spilt = 0;
        }

        void become(World other) {
            System.arraycopy(other.kind, 0, kind, 0, MOST_PEOPLE);
            System.arraycopy(other.grief, 0, grief, 0, MOST_PEOPLE);
            System.arraycopy(other.bears, 0, bears, 0, MOST_PEOPLE);
            System.arraycopy(other.rota, 0, rota, 0, MOST_TURNS);
            people = other.people;
            turns = other.turns;
            takes = other.takes;
            load = other.load;
            hour = other.hour;
            healed = 0;
            spilt = 0;
        }

        boolean has(int p) {
            return p >= 0 && p < people;
        }

        boolean mayAlter(int p, int what, int v) {
            if (!has(p)) {
                return false;
            }
            switch (what) {
                case 0: return within(v, 0, KINDS - 1);
                case 1: return within(v, 0, HIGHEST);
                case 2: return within(v, 1, HIGHEST);
                default: return false;
            }
        }

        void addOne(int kindOfOne, int griefOfOne, int bearsSoMuch) {
            if (people < MOST_PEOPLE) {
                kind[people] = kindOfOne;
                grief[people] = griefOfOne;
                bears[people] = bearsSoMuch;
                people++;
            }
        }

        void addTurn(int p) {
            if (turns < MOST_TURNS) {
                rota[turns] = p;
                turns++;
            }
        }

        void dropTurn(int i) {
            for (int j = i + 1; j < turns; j++) {
                rota[j - 1] = rota[j];
            }
            turns--;
        }

        int turnsOf(int p) {
            int many = 0;
            for (int i = 0; i < turns; i++) {
                if (rota[i] == p) {
                    many++;
                }
            }
            return many;
        }

        int whose() {
            return turns > 0 ? rota[hour % turns] : NONE;
        }

        int all() {
            return sum(grief, people) + load;
        }

        static int sum(int[] a, int n) {
            int total = 0;
            for (int i = 0; i < n; i++) {
                total += a[i];
            }
            return total;
        }

        static int hand(int kindOfOne) {
            switch (kindOfOne) {
                case STOUT: return 8;
                case CHILD: return 2;
                case WIDOW: return 5;
                default: return 4;
            }
        }

        static int heals(int kindOfOne, int ofLoad) {
            int plain = ofLoad / 4;
            int stout = plain / 2;
            switch (kindOfOne) {
                case STOUT: return stout;
                case CHILD: return Math.min(plain + 1, ofLoad);
                case WIDOW: return Math.min(2 * stout + 1, ofLoad);
                default: return plain;
            }
        }

        /** Passes n hours, healed and spilt being those of these hours alone. */
        void pass(int n) {
            healed = 0;
            spilt = 0;
            for (int h = 0; h < n; h++) {
                passOne();
            }
        }

        /** Passes n hours, or fewer if any is spilt: whether none was. */
        boolean passDry(int n) {
            for (int h = 0; h < n && spilt == 0; h++) {
                passOne();
            }
            return spilt == 0;
        }

        void passOne() {
            wheel(whose());
            hour++;
        }

        /** What p does in his hour; nothing, if there is no such one. */
        void wheel(int p) {
            if (!has(p)) {
                return;
            }
            int put = Math.min(Math.min(hand(kind[p]), grief[p]), Math.max(takes - load, 0));
            grief[p] -= put;
            load += put;
            int eased = heals(kind[p], load);
            load -= eased;
            healed += eased;
            if (load > bears[p]) {
                spill(p, load - bears[p]);
                load = bears[p];
            }
        }

        private void spill(int p, int much) {
            spilt += much;
            int to = p;
            for (int i = 0; i < much; i++) {
                to = to + 1 < people ? to + 1 : 0;
                grief[to] = Math.min(grief[to] + 1, HIGHEST);
            }
        }

        void grieve(int p, int more) {
            if (has(p)) {
                grief[p] = Math.min(grief[p] + more, HIGHEST);
            }
        }
    }

    /** What was seen: behind how many hours whose grief is how much. */
    private static final class Sights {
        final int[] behind = new int[MOST_SEEN];
        final int[] who = new int[MOST_SEEN];
        final int[] grief = new int[MOST_SEEN];
        int size;

        void become(Sights other) {
            System.arraycopy(other.behind, 0, behind, 0, MOST_SEEN);
            System.arraycopy(other.who, 0, who, 0, MOST_SEEN);
            System.arraycopy(other.grief, 0, grief, 0, MOST_SEEN);
            size = other.size;
        }

        void add(int n, int p, int g) {
            if (size < MOST_SEEN) {
                behind[size] = n;
                who[size] = p;
                grief[size] = g;
                size++;
            }
        }

        /** Whether all goes as seen in a world, whose hours pass by this. */
        boolean fit(World world) {
            int last = -1;
            for (int i = 0; i < size; i++) {
                last = Math.max(last, behind[i]);
            }
            for (int h = 0; h <= last; h++) {
                if (!fitBehind(h, world)) {
                    return false;
                }
                world.passOne();
            }
            return true;
        }

        private boolean fitBehind(int h, World world) {
            for (int i = 0; i < size; i++) {
                if (behind[i] == h && world.has(who[i]) && world.grief[who[i]] != grief[i]) {
                    return false;
                }
            }
            return true;
        }
    }

    private static final class Image {
        final World world = new World();
        final Sights seen = new Sights();
        boolean kept;
    }

    /** A row of cells, held as ints cut to its lane, or nothing. */
    private static final class Sheet {
        static final int NOTHING = -1, BYTES = 0, SHORTS = 1;

        final int[] cells = new int[MOST_CELLS];
        int lane = NOTHING;
        int size;

        void renew(int newLane, int n) {
            lane = newLane;
            size = n;
            Arrays.fill(cells, 0);
        }

        boolean isNothing() {
            return lane == NOTHING;
        }

        boolean isOther(int asLane) {
            return lane != NOTHING && lane != asLane;
        }

        /** What the machine finds at the first of two cells, or at the second; 0. */
        int faultAt(int first, int second) {
            if (lane == NOTHING) {
                return FAULT_NULL;
            }
            return within(first, 0, size - 1) && within(second, 0, size - 1) ? 0 : FAULT_INDEX;
        }

        void put(int i, int v) {
            if (lane == BYTES) {
                cells[i] = (byte) v;
            } else if (lane == SHORTS) {
                cells[i] = (short) v;
            } else {
                cells[i] = v;
            }
        }
    }

    /** The bytes that were fed, and the token that stands next in them. */
    private static final class Tape {
        static final int END = 0, NAME = 1, NUMBER = 2, STOP = 3, NO_TOKEN = 4;

        final byte[] bytes = new byte[MOST_BYTES];
        int size;
        int next;
        int token;
        int place;
        int number;

        /** Reads the token that begins at next or behind blanks there. */
        void advance() {
            while (next < size && bytes[next] == ' ') {
                next++;
            }
            place = next;
            if (next >= size) {
                token = END;
                return;
            }
            int c = bytes[next];
            next++;
            if (c >= 'a' && c <= 'z') {
                endName();
            } else if (c >= '0' && c <= '9') {
                endNumber(c - '0');
            } else {
                token = c == ';' ? STOP : NO_TOKEN;
            }
        }

        private void endName() {
            while (next < size && bytes[next] >= 'a' && bytes[next] <= 'z') {
                next++;
            }
            token = NAME;
        }

        private void endNumber(int firstFigure) {
            number = firstFigure;
            while (next < size && bytes[next] >= '0' && bytes[next] <= '9') {
                number = number * 10 + bytes[next] - '0';
                next++;
            }
            token = next - place <= 2 ? NUMBER : NO_TOKEN;
        }

        /** Whether the token at place is this word. */
        boolean spells(String word) {
            if (next - place != word.length()) {
                return false;
            }
            for (int i = 0; i < word.length() && place + i < size; i++) {
                if (bytes[place + i] != word.charAt(i)) {
                    return false;
                }
            }
            return true;
        }
    }

    /** Reads the tape into a world of its own, up to the first fault. */
    private static final class Reader {
        static final int NO_TOKEN = 1, MISPLACED = 2, OUT_OF_BOUNDS = 3, AGAIN = 4, TOO_MANY = 5, NOBODY = 6;
        static final int NO_LINE = -1, BARROW = 4, ROTA = 5;

        private final Tape tape;
        private final World world;
        private boolean barrowTold;
        private boolean rotaTold;
        int found;

        Reader(Tape tape, World world) {
            this.tape = tape;
            this.world = world;
        }

        /** How many lines; -10 less the place of the fault that was found. */
        int tell() {
            found = 0;
            barrowTold = false;
            rotaTold = false;
            world.clear();
            tape.next = 0;
            tape.advance();
            int lines = 0;
            while (tape.token != Tape.END && lines < MOST_BYTES) {
                if (!readLine()) {
                    return -10 - tape.place;
                }
                lines++;
                tape.advance();
            }
            for (int i = 0; i < world.turns; i++) {
                if (!world.has(world.rota[i])) {
                    found = NOBODY;
                    return -10 - tape.size;
                }
            }
            return lines;
        }

        private boolean readLine() {
            if (!expect(Tape.NAME)) {
                return false;
            }
            int line = lineOfName();
            if (line == NO_LINE) {
                return refuse(MISPLACED);
            }
            if (line == BARROW) {
                return readBarrow();
            }
            return line == ROTA ? readRota() : readOne(line);
        }

        /** The kind that the name tells, or which other line it begins. */
        private int lineOfName() {
            if (tape.spells("plain")) {
                return 0;
            }
            if (tape.spells("stout")) {
                return World.STOUT;
            }
            if (tape.spells("child")) {
                return World.CHILD;
            }
            if (tape.spells("widow")) {
                return World.WIDOW;
            }
            if (tape.spells("barrow")) {
                return BARROW;
            }
            return tape.spells("rota") ? ROTA : NO_LINE;
        }

        private boolean readOne(int kindOfOne) {
            if (world.people >= MOST_PEOPLE) {
                return refuse(TOO_MANY);
            }
            if (!readNumber(0)) {
                return false;
            }
            int griefOfOne = tape.number;
            if (!readNumber(1)) {
                return false;
            }
            world.addOne(kindOfOne, griefOfOne, tape.number);
            return readStop();
        }

        private boolean readBarrow() {
            if (barrowTold) {
                return refuse(AGAIN);
            }
            barrowTold = true;
            if (!readNumber(1)) {
                return false;
            }
            world.takes = tape.number;
            if (!readNumber(0)) {
                return false;
            }
            world.load = tape.number;
            return readStop();
        }

        private boolean readRota() {
            if (rotaTold) {
                return refuse(AGAIN);
            }
            rotaTold = true;
            tape.advance();
            for (int i = 0; i <= MOST_TURNS && tape.token == Tape.NUMBER; i++) {
                if (i == MOST_TURNS) {
                    return refuse(TOO_MANY);
                }
                if (tape.number >= MOST_PEOPLE) {
                    return refuse(OUT_OF_BOUNDS);
                }
                world.addTurn(tape.number);
                tape.advance();
            }
            return expect(Tape.STOP);
        }

        /** Two figures are never above 99, so only the low bound is looked at. */
        private boolean readNumber(int low) {
            tape.advance();
            if (!expect(Tape.NUMBER)) {
                return false;
            }
            return tape.number >= low || refuse(OUT_OF_BOUNDS);
        }

        private boolean readStop() {
            tape.advance();
            return expect(Tape.STOP);
        }

        private boolean expect(int token) {
            if (tape.token == Tape.NO_TOKEN) {
                return refuse(NO_TOKEN);
            }
            return tape.token == token || refuse(MISPLACED);
        }

        private boolean refuse(int faultHere) {
            found = faultHere;
            return false;
        }
    }
}
