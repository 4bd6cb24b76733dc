/**
 * An agency that lets insomnia: wakers lie awake for clients who could sleep, but for a worry.
 * What each call answers is told in DOC.md, by the promises' numbers.
 */
public final class WakeLet {
    public static final int NONE = -1000000, BAD = -1000001, STATE = -1000002, FULL = -1000003;

    private static final int FINDING = -1000010, NULL = 1, PLACE = 2, KIND = 3, SIZE = 4, STORE = 5;
    private static final int FAULTY = -1000100, MISPLACED = 1, OUT_OF_RANGE = 2, TOO_MANY = 3;

    private static final int ROWS = 8, MOST_ITEMS = 40, BYTES = 0, SHORTS = 1, INTS = 2;
    private static final int TAPE = 100, MOST_CLIENTS = 5, MOST_WAKERS = 4, SETS = 16, IMAGES = 2;
    private static final int NOBODY = 5, LAST_WORRY = 5, HEAVIEST = 99, LONGEST = 9;
    private static final int LAST_NIGHT = 999, MOST_NIGHTS = 24, MOST_ACTS = 24;
    private static final int FARTHEST = 60, MOST_WINDOWS = 16, MOST_GROWTH = 20, LAST_SEED = 999999;
    private static final int LAIN = 0, SORTS = 1, FITTING = 2;
    private static final int OWL = 1, CLERK = 2, MOTHER = 3, GUARD = 4, NOVICE = 5;
    private static final int ALL_AWAKE = SETS - 1;

    private final Row[] rows = new Row[ROWS];
    private final Agency[] images = new Agency[IMAGES];
    private final Agency now = new Agency();
    /** What is foretold, or read from the tape, is tried here, so that nothing changes. */
    private final Agency trial = new Agency();
    private final Tape tape = new Tape();
    private final Acts acts = new Acts();
    private final Search search = new Search();
    private final Asks asks = new Asks();
    private int latestFault;
    private int finding;

    public WakeLet() {
        for (int r = 0; r < ROWS; r++) {
            rows[r] = new Row();
        }
        for (int k = 0; k < IMAGES; k++) {
            images[k] = new Agency();
        }
    }

    // ---- rows

    public int row(int row, int lane, int n) {
        if (!isWithin(row, 0, ROWS - 1) || !isWithin(lane, BYTES, INTS) || n > MOST_ITEMS) {
            return BAD;
        }
        if (n < 0) {
            return found(SIZE);
        }
        rows[row].make(lane, n);
        return unfound(n);
    }

    public int set(int row, int i, int v) {
        if (!isWithin(row, 0, ROWS - 1)) {
            return BAD;
        }
        Row r = rows[row];
        if (r.isMissing()) {
            return found(NULL);
        }
        if (!r.holds(i, 1)) {
            return found(PLACE);
        }
        return unfound(r.put(i, v));
    }

    public int copy(int a, int i, int b, int j, int n) {
        if (!isWithin(a, 0, ROWS - 1) || !isWithin(b, 0, ROWS - 1)) {
            return BAD;
        }
        Row from = rows[a];
        Row to = rows[b];
        if (from.isMissing() || to.isMissing()) {
            return found(NULL);
        }
        if (from.lane != to.lane) {
            return found(STORE);
        }
        if (!from.holds(i, n) || !to.holds(j, n)) {
            return found(PLACE);
        }
        System.arraycopy(from.items, i, to.items, j, n);
        return unfound(n);
    }

    public int drop(int row) {
        if (!isWithin(row, 0, ROWS - 1)) {
            return BAD;
        }
        Row r = rows[row];
        if (r.isMissing()) {
            return found(NULL);
        }
        return unfound(r.lose());
    }

    // ---- agencies, acts

    public int feed(int letter) {
        if (!isWithin(letter, 0, 255)) {
            return BAD;
        }
        return tape.append(letter) ? tape.length : FULL;
    }

    public int agency() {
        tape.readInto(trial);
        if (tape.fault != 0) {
            latestFault = tape.fault;
            return FAULTY - tape.faultPlace;
        }
        now.copyFrom(trial);
        acts.forgetAll();
        return now.clients;
    }

    public int fault() {
        return latestFault;
    }

    public int nights(int n) {
        if (!now.isOpen()) {
            return STATE;
        }
        if (!isWithin(n, 1, MOST_NIGHTS)) {
            return BAD;
        }
        if (now.night + n > LAST_NIGHT) {
            return FULL;
        }
        for (int k = 0; k < n; k++) {
            acts.keep(now);
            now.passNight(ALL_AWAKE);
        }
        return now.resting();
    }

    public int let(int waker, int client) {
        if (!now.hasWaker(waker) || !now.hasClient(client) && client != NOBODY) {
            return BAD;
        }
        int before = now.hirers[waker];
        if (before == client) {
            return STATE;
        }
        acts.keep(now);
        now.hirers[waker] = client;
        return before;
    }

    public int grow(int client, int v) {
        if (!now.hasClient(client) || !isWithin(v, 1, MOST_GROWTH)) {
            return BAD;
        }
        acts.keep(now);
        now.makeHeavier(client, v);
        return now.weights[client];
    }

    public int learn(int waker, int worry) {
        if (!now.hasWaker(waker) || !isWithin(worry, 0, LAST_WORRY)) {
            return BAD;
        }
        int before = now.fitting[waker];
        acts.keep(now);
        now.fitting[waker] = worry;
        return before;
    }

    public int undo() {
        return acts.takeBack(now) ? acts.kept : STATE;
    }

    public int client(int client, int what) {
        if (!now.hasClient(client)) {
            return BAD;
        }
        switch (what) {
            case 0: return now.weights[client];
            case 1: return now.worries[client];
            case 2: return now.resting() >> client & 1;
            case 3: return now.hiredBy(client);
            case 4: return now.lighterBy(client, ALL_AWAKE);
            default: return BAD;
        }
    }

    public int waker(int waker, int what) {
        if (!now.hasWaker(waker)) {
            return BAD;
        }
        switch (what) {
            case 0: return now.hours[waker];
            case 1: return now.fitting[waker];
            case 2: return now.hirers[waker];
            case 3: return now.lying(waker, now.hirers[waker], now.night);
            case 4: return now.wages[waker];
            default: return BAD;
        }
    }

    // ---- foretold

    public int weight(int client, int d) {
        if (!now.hasClient(client) || !isWithin(d, 0, FARTHEST)) {
            return BAD;
        }
        foretell(d);
        return trial.weights[client];
    }

    public int earned(int waker, int d) {
        if (!now.hasWaker(waker) || !isWithin(d, 0, FARTHEST)) {
            return BAD;
        }
        foretell(d);
        return trial.wages[waker];
    }

    public int rests(int d) {
        if (!now.isOpen()) {
            return STATE;
        }
        if (!isWithin(d, 0, FARTHEST)) {
            return BAD;
        }
        foretell(d);
        return trial.resting();
    }

    public int when(int client) {
        if (!now.hasClient(client)) {
            return BAD;
        }
        return firstRest(1 << client);
    }

    public int all(int clients) {
        if (!now.isOpen()) {
            return STATE;
        }
        if (!now.hasAll(clients)) {
            return BAD;
        }
        return firstRest(clients);
    }

    public int never() {
        if (!now.isOpen()) {
            return STATE;
        }
        trial.copyFrom(now);
        int rested = trial.resting();
        for (int d = 1; d <= FARTHEST; d++) {
            trial.passNight(ALL_AWAKE);
            rested |= trial.resting();
        }
        return (1 << now.clients) - 1 & ~rested;
    }

    public int best(int d, int k) {
        if (!now.isOpen()) {
            return STATE;
        }
        if (!isWithin(d, 0, FARTHEST) || !isWithin(k, -2, MOST_WAKERS - 1)) {
            return BAD;
        }
        search.findBest(now, d);
        if (k == -2) {
            return search.together;
        }
        return k == -1 ? search.resting : hirerFound(k);
    }

    public int fewest(int clients, int d, int k) {
        if (!now.isOpen()) {
            return STATE;
        }
        if (!now.hasAll(clients) || !isWithin(d, 0, FARTHEST) || !isWithin(k, -1, MOST_WAKERS - 1)) {
            return BAD;
        }
        search.findFewest(now, clients, d);
        if (search.hired == NONE) {
            return NONE;
        }
        return k == -1 ? search.hired : hirerFound(k);
    }

    public int fits(int waker, int row, int i, int n, int what) {
        if (!now.hasWaker(waker) || !isWithin(row, 0, ROWS - 1)
                || !isWithin(n, 1, MOST_WINDOWS) || !isWithin(what, LAIN, FITTING)) {
            return BAD;
        }
        Row windows = rows[row];
        if (windows.isMissing()) {
            return found(NULL);
        }
        if (!windows.holds(i, n)) {
            return found(PLACE);
        }
        int fitting = 0;
        for (int guess = 0; guess <= 5; guess++) {
            if (isGuess(guess, what) && wouldShow(waker, what, guess, windows, i, n)) {
                fitting |= 1 << guess;
            }
        }
        return unfound(fitting);
    }

    public int nods(int m, int c, int what) {
        if (!now.isOpen()) {
            return STATE;
        }
        if (!isWithin(m, 0, MOST_CLIENTS) || !isWithin(c, 0, 10) || !isWithin(what, 0, 1)) {
            return BAD;
        }
        int above = 0;
        int below = 1;
        for (int w = 0; w < now.wakers; w++) {
            below *= 10;
        }
        for (int awake = 0; awake < 1 << now.wakers; awake++) {
            trial.copyFrom(now);
            trial.passNight(awake);
            if (Integer.bitCount(trial.resting()) >= m) {
                above += waysToBe(awake, c);
            }
        }
        int common = commonDivisor(above, below);
        return (what == 0 ? above : below) / Math.max(1, common);
    }

    public int drawn(int n, int seed, int what) {
        if (!now.isOpen()) {
            return STATE;
        }
        if (!isWithin(n, 0, FARTHEST) || !isWithin(seed, 1, LAST_SEED) || !isWithin(what, 0, 1)) {
            return BAD;
        }
        trial.copyFrom(now);
        long x = seed;
        int rested = 0;
        for (int k = 0; k < n; k++) {
            x = x * 16807L % 2147483647L;
            trial.makeHeavier((int) (x % Math.max(1, trial.clients)), (int) (x % 5L));
            trial.passNight(ALL_AWAKE);
            rested += Integer.bitCount(trial.resting());
        }
        return what == 0 ? rested : trial.weightsTogether();
    }

    public int image(int k) {
        if (!isWithin(k, 0, IMAGES - 1)) {
            return BAD;
        }
        if (!now.isOpen()) {
            return STATE;
        }
        images[k].copyFrom(now);
        return 1;
    }

    public int restore(int k) {
        if (!isWithin(k, 0, IMAGES - 1)) {
            return BAD;
        }
        if (!images[k].isOpen()) {
            return STATE;
        }
        now.copyFrom(images[k]);
        acts.forgetAll();
        return 1;
    }

    // ---- asked

    public int kind(int waker) {
        return now.hasWaker(waker) ? now.kinds[waker] : BAD;
    }

    public int as(int waker, int kind) {
        if (!now.hasWaker(waker) || !isWithin(kind, 0, NOVICE)) {
            return BAD;
        }
        if (!Asks.isOfKind(now.kinds[waker], kind)) {
            return found(KIND);
        }
        return unfound(waker);
    }

    public int ask(int waker, int what) {
        if (!now.hasWaker(waker) || !isWithin(what, 0, 1)) {
            return BAD;
        }
        return asks.begin(now, waker, what);
    }

    public int trace(int i) {
        return isWithin(i, 0, asks.traced - 1) ? asks.numbers[i] : NONE;
    }

    public int count(int what) {
        switch (what) {
            case 0: return rowsThere();
            case 1: return now.clients;
            case 2: return now.wakers;
            case 3: return now.night;
            case 4: return now.resting();
            case 5: return now.wagesTogether();
            case 6: return acts.kept;
            case 7: return tape.length;
            default: return BAD;
        }
    }

    public int status() {
        return finding;
    }

    // ---- what the calls share

    private static boolean isWithin(int v, int least, int most) {
        return v >= least && v <= most;
    }

    private int found(int number) {
        finding = number;
        return FINDING - number;
    }

    private int unfound(int answer) {
        finding = 0;
        return answer;
    }

    private int rowsThere() {
        int there = 0;
        for (int r = 0; r < ROWS; r++) {
            if (!rows[r].isMissing()) {
                there++;
            }
        }
        return there;
    }

    private void foretell(int d) {
        trial.copyFrom(now);
        for (int k = 0; k < d; k++) {
            trial.passNight(ALL_AWAKE);
        }
    }

    private int firstRest(int told) {
        trial.copyFrom(now);
        for (int d = 0; d <= FARTHEST; d++) {
            if ((trial.resting() & told) == told) {
                return d;
            }
            trial.passNight(ALL_AWAKE);
        }
        return NONE;
    }

    private int hirerFound(int k) {
        return isWithin(k, 0, now.wakers - 1) ? search.chosen[k] : NONE;
    }

    private boolean isGuess(int guess, int what) {
        if (what == LAIN) {
            return now.hasClient(guess) || guess == NOBODY;
        }
        return what == FITTING || guess >= OWL;
    }

    private boolean wouldShow(int waker, int what, int guess, Row windows, int i, int n) {
        trial.copyFrom(now);
        if (what == LAIN) {
            trial.hirers[waker] = guess;
        } else if (what == SORTS) {
            trial.kinds[waker] = guess;
        } else {
            trial.fitting[waker] = guess;
        }
        for (int k = 0; k < n; k++) {
            trial.passNight(ALL_AWAKE);
            if (trial.resting() != windows.items[i + k]) {
                return false;
            }
        }
        return true;
    }

    /** Of 10 to the power of how many wakers there are: in how many cases just these stay awake. */
    private int waysToBe(int awake, int c) {
        int ways = 1;
        for (int w = 0; w < now.wakers; w++) {
            ways *= (awake >> w & 1) == 1 ? 10 - c : c;
        }
        return ways;
    }

    private static int commonDivisor(int a, int b) {
        int greater = a;
        int lesser = b;
        for (int step = 0; step < 64 && lesser != 0; step++) {
            int rest = greater % lesser;
            greater = lesser;
            lesser = rest;
        }
        return greater;
    }

    /** Items are held as numbers already cut to the lane, so that one kind of array serves all lanes. */
    private static final class Row {
        final int[] items = new int[MOST_ITEMS];
        int lane;
        int size = -1;

        boolean isMissing() {
            return size < 0;
        }

        /** Written so that no sum can run over. */
        boolean holds(int i, int n) {
            return i >= 0 && n >= 0 && n <= size && i <= size - n;
        }

        void make(int newLane, int n) {
            lane = newLane;
            size = n;
            for (int i = 0; i < MOST_ITEMS; i++) {
                items[i] = 0;
            }
        }

        int put(int i, int v) {
            items[i] = lane == BYTES ? (byte) v : lane == SHORTS ? (short) v : v;
            return items[i];
        }

        int lose() {
            int had = size;
            size = -1;
            return had;
        }
    }

    /** The bytes told, and their reading; from the first fault on nothing more is read. */
    private static final class Tape {
        final int[] bytes = new int[TAPE];
        int length;
        int place;
        int fault;
        int faultPlace;

        boolean append(int letter) {
            if (length >= TAPE) {
                return false;
            }
            bytes[length] = letter;
            length++;
            return true;
        }

        void readInto(Agency a) {
            place = 0;
            fault = 0;
            a.close();
            readLaw(a);
            readClients(a);
            readWakers(a);
            if (place < length) {
                fail(MISPLACED, place);
            }
            length = 0;
        }

        private void readLaw(Agency a) {
            expect('l');
            a.bears = number(20);
            expect(',');
            a.moon = number(6);
            expect(';');
        }

        private void readClients(Agency a) {
            readClient(a);
            for (int more = 0; more < MOST_CLIENTS && next() == 'w'; more++) {
                readClient(a);
            }
        }

        private void readClient(Agency a) {
            int c = a.clients;
            if (c >= MOST_CLIENTS) {
                fail(TOO_MANY, place);
                return;
            }
            expect('w');
            a.weights[c] = number(40);
            expect(',');
            a.worries[c] = number(LAST_WORRY);
            expect(';');
            a.clients = c + 1;
        }

        private void readWakers(Agency a) {
            for (int more = 0; more <= MOST_WAKERS && kindTold(next()) != 0; more++) {
                readWaker(a);
            }
        }

        private void readWaker(Agency a) {
            int w = a.wakers;
            if (w >= MOST_WAKERS) {
                fail(TOO_MANY, place);
                return;
            }
            a.kinds[w] = kindTold(next());
            place++;
            a.hours[w] = number(9);
            expect(',');
            a.fitting[w] = number(LAST_WORRY);
            expect(',');
            a.hirers[w] = hirer(a);
            expect(';');
            a.wages[w] = 0;
            a.wakers = w + 1;
        }

        private static int kindTold(int letter) {
            switch (letter) {
                case 'o': return OWL;
                case 'c': return CLERK;
                case 'm': return MOTHER;
                case 'g': return GUARD;
                case 'n': return NOVICE;
                default: return 0;
            }
        }

        private int hirer(Agency a) {
            int start = place;
            int told = number(NOBODY);
            if (told != NOBODY && !a.hasClient(told)) {
                fail(OUT_OF_RANGE, start);
            }
            return told;
        }

        private int number(int most) {
            int start = place;
            int value = 0;
            for (int more = 0; more < TAPE && isFigure(next()); more++) {
                value = Math.min(1000, value * 10 + next() - '0');
                place++;
            }
            if (place == start || place - start > 2) {
                fail(MISPLACED, start);
            } else if (value > most) {
                fail(OUT_OF_RANGE, start);
            }
            return value;
        }

        private void expect(int sign) {
            if (next() == sign) {
                place++;
            } else {
                fail(MISPLACED, place);
            }
        }

        private static boolean isFigure(int letter) {
            return letter >= '0' && letter <= '9';
        }

        /** Behind a fault there is nothing to read, so that the reading runs out by itself. */
        private int next() {
            return fault == 0 && place < length ? bytes[place] : -1;
        }

        private void fail(int number, int where) {
            if (fault == 0) {
                fault = number;
                faultPlace = where;
            }
        }
    }

    /** An agency in some night; without clients there is none. */
    private static final class Agency {
        final int[] weights = new int[MOST_CLIENTS];
        final int[] worries = new int[MOST_CLIENTS];
        final int[] kinds = new int[MOST_WAKERS];
        final int[] hours = new int[MOST_WAKERS];
        final int[] fitting = new int[MOST_WAKERS];
        final int[] hirers = new int[MOST_WAKERS];
        final int[] wages = new int[MOST_WAKERS];
        int clients;
        int wakers;
        int bears;
        int moon;
        int night;

        void close() {
            clients = 0;
            wakers = 0;
            night = 0;
        }

        void copyFrom(Agency a) {
            System.arraycopy(a.weights, 0, weights, 0, MOST_CLIENTS);
            System.arraycopy(a.worries, 0, worries, 0, MOST_CLIENTS);
            System.arraycopy(a.kinds, 0, kinds, 0, MOST_WAKERS);
            System.arraycopy(a.hours, 0, hours, 0, MOST_WAKERS);
            System.arraycopy(a.fitting, 0, fitting, 0, MOST_WAKERS);
            System.arraycopy(a.hirers, 0, hirers, 0, MOST_WAKERS);
            System.arraycopy(a.wages, 0, wages, 0, MOST_WAKERS);
            clients = a.clients;
            wakers = a.wakers;
            bears = a.bears;
            moon = a.moon;
            night = a.night;
        }

        boolean isOpen() {
            return clients > 0;
        }

        boolean hasClient(int c) {
            return c >= 0 && c < clients;
        }

        boolean hasWaker(int w) {
            return w >= 0 && w < wakers;
        }

        boolean hasAll(int told) {
            return told >= 0 && told < 1 << clients;
        }

        /** The client is told, as he need not be the one whom the waker is let to: others are tried. */
        int lying(int w, int client, int t) {
            if (!hasWaker(w) || !hasClient(client)) {
                return 0;
            }
            int told = hours[w];
            switch (kinds[w]) {
                case CLERK: return t % 7 == moon ? 0 : told;
                case MOTHER: return fitting[w] == worries[client] ? 2 * told : told;
                case GUARD: return guarding(told, t);
                case NOVICE: return Math.min(LONGEST, guarding(told, t) + t / 2);
                default: return told;
            }
        }

        private static int guarding(int told, int t) {
            return t % 3 == 2 ? 0 : told;
        }

        int takenBy(int w, int client, int t) {
            if (!hasWaker(w) || !hasClient(client)) {
                return 0;
            }
            int lies = lying(w, client, t);
            return fitting[w] == worries[client] ? lies : lies / 2;
        }

        int lighterBy(int client, int awake) {
            int most = 0;
            int takers = hiredBy(client) & awake;
            for (int w = 0; w < wakers; w++) {
                if ((takers >> w & 1) == 1) {
                    most = Math.max(most, takenBy(w, client, night));
                }
            }
            return most;
        }

        int hiredBy(int client) {
            int hired = 0;
            for (int w = 0; w < wakers; w++) {
                if (hirers[w] == client) {
                    hired |= 1 << w;
                }
            }
            return hired;
        }

        void passNight(int awake) {
            for (int c = 0; c < clients; c++) {
                weights[c] = nextWeight(weights[c], lighterBy(c, awake));
            }
            for (int w = 0; w < wakers; w++) {
                if ((awake >> w & 1) == 1) {
                    wages[w] += lying(w, hirers[w], night);
                }
            }
            night++;
        }

        static int nextWeight(int weight, int taken) {
            if (taken > 0) {
                return Math.max(0, weight - taken);
            }
            return weight > 0 ? Math.min(HEAVIEST, weight + 1) : 0;
        }

        void makeHeavier(int client, int v) {
            if (hasClient(client)) {
                weights[client] = Math.min(HEAVIEST, weights[client] + v);
            }
        }

        int resting() {
            int rest = 0;
            for (int c = 0; c < clients; c++) {
                if (weights[c] <= bears) {
                    rest |= 1 << c;
                }
            }
            return rest;
        }

        int weightsTogether() {
            int sum = 0;
            for (int c = 0; c < clients; c++) {
                sum += weights[c];
            }
            return sum;
        }

        int wagesTogether() {
            int sum = 0;
            for (int w = 0; w < wakers; w++) {
                sum += wages[w];
            }
            return sum;
        }
    }

    /** How all that an act can change stood ahead of each act kept; the oldest stands at first. */
    private static final class Acts {
        static final int WIDTH = 1 + MOST_CLIENTS + 3 * MOST_WAKERS;
        final int[] log = new int[MOST_ACTS * WIDTH];
        int first;
        int kept;

        void forgetAll() {
            kept = 0;
        }

        void keep(Agency a) {
            if (kept == MOST_ACTS) {
                first = (first + 1) % MOST_ACTS;
                kept--;
            }
            int at = startOf(kept);
            kept++;
            log[at] = a.night;
            System.arraycopy(a.weights, 0, log, at + 1, MOST_CLIENTS);
            at += 1 + MOST_CLIENTS;
            System.arraycopy(a.fitting, 0, log, at, MOST_WAKERS);
            System.arraycopy(a.hirers, 0, log, at + MOST_WAKERS, MOST_WAKERS);
            System.arraycopy(a.wages, 0, log, at + 2 * MOST_WAKERS, MOST_WAKERS);
        }

        boolean takeBack(Agency a) {
            if (kept == 0) {
                return false;
            }
            kept--;
            int at = startOf(kept);
            a.night = log[at];
            System.arraycopy(log, at + 1, a.weights, 0, MOST_CLIENTS);
            at += 1 + MOST_CLIENTS;
            System.arraycopy(log, at, a.fitting, 0, MOST_WAKERS);
            System.arraycopy(log, at + MOST_WAKERS, a.hirers, 0, MOST_WAKERS);
            System.arraycopy(log, at + 2 * MOST_WAKERS, a.wages, 0, MOST_WAKERS);
            return true;
        }

        private int startOf(int act) {
            return (first + act) % MOST_ACTS * WIDTH;
        }
    }

    /**
     * All ways to let the wakers are tried. How a worry goes on hangs on its client's own wakers alone,
     * so each client's is foretold once for each set of wakers, not anew for each way.
     */
    private static final class Search {
        final int[] behind = new int[MOST_CLIENTS * SETS];
        final int[] taken = new int[SETS];
        final int[] hiredBy = new int[MOST_CLIENTS];
        final int[] tried = new int[MOST_WAKERS];
        final int[] chosen = new int[MOST_WAKERS];
        int resting;
        int together;
        int hired;

        void findBest(Agency a, int d) {
            foretellSets(a, d);
            resting = -1;
            int ways = waysToLet(a);
            for (int way = 0; way < ways; way++) {
                tryWay(a, way);
                int rest = 0;
                int sum = 0;
                for (int c = 0; c < a.clients; c++) {
                    int weight = weightBehind(c);
                    sum += weight;
                    rest += weight <= a.bears ? 1 : 0;
                }
                if (rest > resting || rest == resting && sum < together) {
                    resting = rest;
                    together = sum;
                    choose();
                }
            }
        }

        void findFewest(Agency a, int told, int d) {
            foretellSets(a, d);
            hired = NONE;
            int ways = waysToLet(a);
            for (int way = 0; way < ways; way++) {
                int let = tryWay(a, way);
                if ((hired == NONE || let < hired) && restAll(a, told)) {
                    hired = let;
                    choose();
                }
            }
        }

        private boolean restAll(Agency a, int told) {
            for (int c = 0; c < a.clients; c++) {
                if ((told >> c & 1) == 1 && weightBehind(c) > a.bears) {
                    return false;
                }
            }
            return true;
        }

        private int weightBehind(int c) {
            return behind[c * SETS + hiredBy[c]];
        }

        private void choose() {
            System.arraycopy(tried, 0, chosen, 0, MOST_WAKERS);
        }

        private void foretellSets(Agency a, int d) {
            for (int c = 0; c < a.clients; c++) {
                for (int set = 0; set < SETS; set++) {
                    behind[c * SETS + set] = a.weights[c];
                }
                for (int k = 0; k < d; k++) {
                    findTaken(a, c, a.night + k);
                    for (int set = 0; set < SETS; set++) {
                        int at = c * SETS + set;
                        behind[at] = Agency.nextWeight(behind[at], taken[set]);
                    }
                }
            }
        }

        private void findTaken(Agency a, int c, int t) {
            taken[0] = 0;
            for (int set = 1; set < SETS; set++) {
                int others = set & set - 1;
                taken[set] = others == 0
                        ? a.takenBy(Integer.numberOfTrailingZeros(set), c, t)
                        : Math.max(taken[others], taken[set - others]);
            }
        }

        private static int waysToLet(Agency a) {
            int ways = 1;
            for (int w = 0; w < a.wakers; w++) {
                ways *= a.clients + 1;
            }
            return ways;
        }

        /** The first waker's is the highest figure, so that ways come in the order that is told: how many are let. */
        private int tryWay(Agency a, int way) {
            for (int c = 0; c < MOST_CLIENTS; c++) {
                hiredBy[c] = 0;
            }
            int choices = Math.max(1, a.clients + 1);
            int rest = way;
            int let = 0;
            for (int w = a.wakers - 1; w >= 0; w--) {
                int client = rest % choices;
                rest /= choices;
                tried[w] = NOBODY;
                if (a.hasClient(client)) {
                    tried[w] = client;
                    hiredBy[client] |= 1 << w;
                    let++;
                }
            }
            return let;
        }
    }

    /** The asks of wakers, and the trace that their bodies leave. */
    private static final class Asks {
        static final int MOST_TRACED = 16, DEEPEST = 16, LENT_SIZE = 10, LENT_MARK = 20, ASK_SIZE = 0, ASK_MARK = 1;
        /** By kind; 0: it has no body of its own. */
        static final int[] SIZE_BODIES = {10, 11, 12, 0, 13, 14};
        static final int[] MARK_BODIES = {20, 21, 24, 22, 23, 0};
        /** Of which kind one of a kind is, too. */
        static final int[] PARENTS = {0, 0, 1, 1, 0, 4};

        final int[] numbers = new int[MOST_TRACED];
        int traced;

        int begin(Agency a, int waker, int what) {
            traced = 0;
            return askAnew(a, waker, what, 0);
        }

        static boolean isOfKind(int kind, int wanted) {
            int k = kind;
            for (int step = 0; step < NOVICE && k > 0 && k != wanted; step++) {
                k = parentOf(k);
            }
            return k == wanted;
        }

        private static int parentOf(int kind) {
            return kind >= 0 && kind < PARENTS.length ? PARENTS[kind] : 0;
        }

        private int askAnew(Agency a, int waker, int what, int depth) {
            if (!a.hasWaker(waker)) {
                return 0;
            }
            return runBody(a, waker, bodyFor(a.kinds[waker], what), depth + 1);
        }

        private static int bodyFor(int kind, int what) {
            int k = kind;
            for (int step = 0; step < NOVICE && k > 0 && ownBody(k, what) == 0; step++) {
                k = parentOf(k);
            }
            return ownBody(k, what);
        }

        private static int ownBody(int kind, int what) {
            int[] bodies = what == ASK_SIZE ? SIZE_BODIES : MARK_BODIES;
            return kind >= 0 && kind < bodies.length ? bodies[kind] : 0;
        }

        private int runBody(Agency a, int waker, int number, int depth) {
            if (depth > DEEPEST || !a.hasWaker(waker)) {
                return 0;
            }
            leave(number);
            int deeper = depth + 1;
            switch (number) {
                case LENT_SIZE: return a.hours[waker];
                case 11: return runBody(a, waker, LENT_SIZE, deeper) + askAnew(a, waker, ASK_MARK, deeper);
                case 12: return -runBody(a, waker, 11, deeper);
                case 13: return runBody(a, waker, LENT_SIZE, deeper) - 100;
                case 14: return 2 * runBody(a, waker, 13, deeper);
                case LENT_MARK: return waker;
                case 21: return runBody(a, waker, LENT_MARK, deeper) + a.wages[waker];
                case 22: return runBody(a, waker, 21, deeper) - 1000;
                case 23: return runBody(a, waker, LENT_MARK, deeper) - askAnew(a, waker, ASK_SIZE, deeper);
                case 24: return 2 * runBody(a, waker, 21, deeper);
                default: return 0;
            }
        }

        private void leave(int number) {
            if (traced < MOST_TRACED) {
                numbers[traced] = number;
                traced++;
            }
        }
    }
}
