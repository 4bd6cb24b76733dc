import java.math.BigInteger;
import java.util.ArrayDeque;
import java.util.ArrayList;
import java.util.Arrays;
import java.util.Deque;
import java.util.List;
import java.util.Map;
import java.util.TreeMap;

/**
 * The document told a second time, in the plainest and slowest way and with all of Java's library,
 * so that the program's answers can be held against it.
 */
final class Model {
    static final int NONE = -1000000, BAD = -1000001, STATE = -1000002, FULL = -1000003;

    /** The asks are left to Java's own dispatch. */
    interface Waker {
        int number();
        int hours();
        int earned();
        List<Integer> traced();

        default int size() {
            traced().add(10);
            return hours();
        }

        default int mark() {
            traced().add(20);
            return number();
        }
    }

    static class Owl implements Waker {
        int number, hours, earned;
        List<Integer> traced = new ArrayList<>();

        public int number() { return number; }
        public int hours() { return hours; }
        public int earned() { return earned; }
        public List<Integer> traced() { return traced; }

        public int size() {
            traced.add(11);
            return Waker.super.size() + mark();
        }

        public int mark() {
            traced.add(21);
            return Waker.super.mark() + earned;
        }
    }

    static class Clerk extends Owl {
        public int size() {
            traced.add(12);
            return 0 - super.size();
        }

        public int mark() {
            traced.add(24);
            return super.mark() * 2;
        }
    }

    static class Mother extends Owl {
        public int mark() {
            traced.add(22);
            return super.mark() - 1000;
        }
    }

    static class Guard implements Waker {
        int number, hours, earned;
        List<Integer> traced = new ArrayList<>();

        public int number() { return number; }
        public int hours() { return hours; }
        public int earned() { return earned; }
        public List<Integer> traced() { return traced; }

        public int size() {
            traced.add(13);
            return Waker.super.size() - 100;
        }

        public int mark() {
            traced.add(23);
            return Waker.super.mark() - size();
        }
    }

    static class Novice extends Guard {
        public int size() {
            traced.add(14);
            return super.size() * 2;
        }
    }

    record Client(int weight, int worry) { }

    record Hired(char sort, int hours, int fits, int of, int earned) { }

    /** Nothing in it changes: each act makes another. */
    record House(int bears, int moon, int night, List<Client> clients, List<Hired> wakers) {
        int lies(Hired w) {
            if (w.of == 5) {
                return 0;
            }
            boolean fits = clients.get(w.of).worry == w.fits;
            int guarded = night % 3 == 2 ? 0 : w.hours;
            return switch (w.sort) {
                case 'o' -> w.hours;
                case 'c' -> night % 7 == moon ? 0 : w.hours;
                case 'm' -> fits ? w.hours * 2 : w.hours;
                case 'g' -> guarded;
                default -> Math.min(9, guarded + night / 2);
            };
        }

        int lighter(int client, int nodding) {
            int most = 0;
            for (int k = 0; k < wakers.size(); k++) {
                Hired w = wakers.get(k);
                if (w.of == client && (nodding >> k & 1) == 0) {
                    most = Math.max(most, w.fits == clients.get(client).worry ? lies(w) : lies(w) / 2);
                }
            }
            return most;
        }

        House morrow(int nodding) {
            List<Client> then = new ArrayList<>();
            for (int c = 0; c < clients.size(); c++) {
                int weight = clients.get(c).weight;
                int lighter = lighter(c, nodding);
                int next = lighter > 0 ? Math.max(weight - lighter, 0) : weight == 0 ? 0 : Math.min(weight + 1, 99);
                then.add(new Client(next, clients.get(c).worry));
            }
            List<Hired> paid = new ArrayList<>();
            for (int k = 0; k < wakers.size(); k++) {
                Hired w = wakers.get(k);
                paid.add(new Hired(w.sort, w.hours, w.fits, w.of, w.earned + lies(w)));
            }
            return new House(bears, moon, night + 1, then, paid);
        }

        House behind(int d) {
            House h = this;
            for (int k = 0; k < d; k++) {
                h = h.morrow(0);
            }
            return h;
        }

        int rests() {
            int bits = 0;
            for (int c = 0; c < clients.size(); c++) {
                bits |= clients.get(c).weight <= bears ? 1 << c : 0;
            }
            return bits;
        }

        int together() {
            return clients.stream().mapToInt(Client::weight).sum();
        }

        House withWaker(int k, Hired w) {
            List<Hired> others = new ArrayList<>(wakers);
            others.set(k, w);
            return new House(bears, moon, night, clients, others);
        }

        House heavier(int c, int v) {
            List<Client> others = new ArrayList<>(clients);
            others.set(c, new Client(Math.min(99, clients.get(c).weight + v), clients.get(c).worry));
            return new House(bears, moon, night, others, wakers);
        }

        House letAs(int[] of) {
            House h = this;
            for (int k = 0; k < of.length; k++) {
                Hired w = wakers.get(k);
                h = h.withWaker(k, new Hired(w.sort, w.hours, w.fits, of[k], w.earned));
            }
            return h;
        }
    }

    /** What ends a reading. */
    private static final class Fault extends Exception {
        private static final long serialVersionUID = 1L;
        final int number, place;

        Fault(int number, int place) {
            this.number = number;
            this.place = place;
        }
    }

    private record Token(String text, int place) { }

    private final Map<Integer, Object> rows = new TreeMap<>();
    private final StringBuilder tape = new StringBuilder();
    private final Deque<House> past = new ArrayDeque<>();
    private final House[] images = new House[2];
    private House house;
    private int fault, status;
    private List<Integer> trace = List.of();

    private int found(int number) {
        status = number;
        return -1000010 - number;
    }

    private int fine(int answer) {
        status = 0;
        return answer;
    }

    private static int sizeOf(Object row) {
        return java.lang.reflect.Array.getLength(row);
    }

    int row(int row, int lane, int n) {
        if (row < 0 || row > 7 || lane < 0 || lane > 2 || n > 40) return BAD;
        if (n < 0) return found(4);
        rows.put(row, lane == 0 ? new byte[n] : lane == 1 ? new short[n] : new int[n]);
        return fine(n);
    }

    int set(int row, int i, int v) {
        if (row < 0 || row > 7) return BAD;
        Object r = rows.get(row);
        if (r == null) return found(1);
        if (i < 0 || i >= sizeOf(r)) return found(2);
        if (r instanceof byte[] b) return fine(b[i] = (byte) v);
        if (r instanceof short[] s) return fine(s[i] = (short) v);
        return fine(((int[]) r)[i] = v);
    }

    int copy(int a, int i, int b, int j, int n) {
        if (a < 0 || a > 7 || b < 0 || b > 7) return BAD;
        try {
            System.arraycopy(rows.get(a), i, rows.get(b), j, n);
            return fine(n);
        } catch (NullPointerException e) {
            return found(1);
        } catch (ArrayStoreException e) {
            return found(5);
        } catch (IndexOutOfBoundsException e) {
            return found(2);
        }
    }

    int drop(int row) {
        if (row < 0 || row > 7) return BAD;
        Object r = rows.remove(row);
        return r == null ? found(1) : fine(sizeOf(r));
    }

    int feed(int letter) {
        if (letter < 0 || letter > 255) return BAD;
        if (tape.length() == 100) return FULL;
        tape.append((char) letter);
        return tape.length();
    }

    int agency() {
        String text = tape.toString();
        tape.setLength(0);
        try {
            house = read(tokens(text));
            past.clear();
            return house.clients.size();
        } catch (Fault f) {
            fault = f.number;
            return -1000100 - f.place;
        }
    }

    /** First all tokens, then their order: each form's tokens are looked at one by one. */
    private static List<Token> tokens(String text) {
        List<Token> tokens = new ArrayList<>();
        int i = 0;
        while (i < text.length()) {
            int j = i + 1;
            if (figure(text.charAt(i))) {
                while (j < text.length() && figure(text.charAt(j))) j++;
            }
            tokens.add(new Token(text.substring(i, j), i));
            i = j;
        }
        tokens.add(new Token("", text.length()));
        return tokens;
    }

    private static boolean figure(char c) {
        return "0123456789".indexOf(c) >= 0;
    }

    private static House read(List<Token> tokens) throws Fault {
        int at = 0;
        if (!tokens.get(at).text.equals("l")) throw new Fault(1, tokens.get(at).place);
        int[] law = form(tokens, at + 1, new int[][] {range(20), range(6)});
        at += 5;
        List<Client> clients = new ArrayList<>();
        while (clients.isEmpty() || tokens.get(at).text.equals("w")) {
            if (!tokens.get(at).text.equals("w")) throw new Fault(1, tokens.get(at).place);
            if (clients.size() == 5) throw new Fault(3, tokens.get(at).place);
            int[] told = form(tokens, at + 1, new int[][] {range(40), range(5)});
            clients.add(new Client(told[0], told[1]));
            at += 5;
        }
        List<Hired> wakers = new ArrayList<>();
        int[] hirers = Arrays.copyOf(range(clients.size() - 1), clients.size() + 1);
        hirers[clients.size()] = 5;
        while (tokens.get(at).text.matches("[ocmgn]")) {
            if (wakers.size() == 4) throw new Fault(3, tokens.get(at).place);
            int[] told = form(tokens, at + 1, new int[][] {range(9), range(5), hirers});
            wakers.add(new Hired(tokens.get(at).text.charAt(0), told[0], told[1], told[2], 0));
            at += 7;
        }
        if (!tokens.get(at).text.isEmpty()) throw new Fault(1, tokens.get(at).place);
        return new House(law[0], law[1], 0, clients, wakers);
    }

    private static int[] range(int most) {
        int[] all = new int[most + 1];
        for (int i = 0; i <= most; i++) all[i] = i;
        return all;
    }

    /** Numbers with commas between and a semicolon behind them. */
    private static int[] form(List<Token> tokens, int from, int[][] allowed) throws Fault {
        int[] told = new int[allowed.length];
        for (int k = 0; k < allowed.length; k++) {
            Token number = tokens.get(from + 2 * k);
            if (!number.text.matches("[0-9]{1,2}")) throw new Fault(1, number.place);
            told[k] = Integer.parseInt(number.text);
            if (Arrays.binarySearch(allowed[k], told[k]) < 0) throw new Fault(2, number.place);
            Token sign = tokens.get(from + 2 * k + 1);
            if (!sign.text.equals(k == allowed.length - 1 ? ";" : ",")) throw new Fault(1, sign.place);
        }
        return told;
    }

    int fault() {
        return fault;
    }

    private void act(House next) {
        past.addLast(house);
        if (past.size() > 24) past.removeFirst();
        house = next;
    }

    private boolean isClient(int c) {
        return house != null && c >= 0 && c < house.clients.size();
    }

    private boolean isWaker(int w) {
        return house != null && w >= 0 && w < house.wakers.size();
    }

    int nights(int n) {
        if (house == null) return STATE;
        if (n < 1 || n > 24) return BAD;
        if (house.night + n > 999) return FULL;
        for (int k = 0; k < n; k++) act(house.morrow(0));
        return house.rests();
    }

    int let(int waker, int client) {
        if (!isWaker(waker) || !(isClient(client) || client == 5)) return BAD;
        Hired w = house.wakers.get(waker);
        if (w.of == client) return STATE;
        act(house.withWaker(waker, new Hired(w.sort, w.hours, w.fits, client, w.earned)));
        return w.of;
    }

    int grow(int client, int v) {
        if (!isClient(client) || v < 1 || v > 20) return BAD;
        act(house.heavier(client, v));
        return house.clients.get(client).weight;
    }

    int learn(int waker, int worry) {
        if (!isWaker(waker) || worry < 0 || worry > 5) return BAD;
        Hired w = house.wakers.get(waker);
        act(house.withWaker(waker, new Hired(w.sort, w.hours, worry, w.of, w.earned)));
        return w.fits;
    }

    int undo() {
        if (past.isEmpty()) return STATE;
        house = past.removeLast();
        return past.size();
    }

    int client(int client, int what) {
        if (!isClient(client) || what < 0 || what > 4) return BAD;
        int let = 0;
        for (int k = 0; k < house.wakers.size(); k++) {
            if (house.wakers.get(k).of == client) let += 1 << k;
        }
        Client c = house.clients.get(client);
        return new int[] {c.weight, c.worry, c.weight <= house.bears ? 1 : 0, let, house.lighter(client, 0)}[what];
    }

    int waker(int waker, int what) {
        if (!isWaker(waker) || what < 0 || what > 4) return BAD;
        Hired w = house.wakers.get(waker);
        return new int[] {w.hours, w.fits, w.of, house.lies(w), w.earned}[what];
    }

    int weight(int client, int d) {
        return !isClient(client) || d < 0 || d > 60 ? BAD : house.behind(d).clients.get(client).weight;
    }

    int earned(int waker, int d) {
        return !isWaker(waker) || d < 0 || d > 60 ? BAD : house.behind(d).wakers.get(waker).earned;
    }

    int rests(int d) {
        if (house == null) return STATE;
        return d < 0 || d > 60 ? BAD : house.behind(d).rests();
    }

    int when(int client) {
        return isClient(client) ? all(1 << client) : BAD;
    }

    int all(int clients) {
        if (house == null) return STATE;
        if (clients < 0 || clients >> house.clients.size() != 0) return BAD;
        House h = house;
        for (int d = 0; d <= 60; d++) {
            if ((h.rests() | ~clients) == -1) return d;
            h = h.morrow(0);
        }
        return NONE;
    }

    int never() {
        if (house == null) return STATE;
        int never = 0;
        for (int c = 0; c < house.clients.size(); c++) {
            if (when(c) == NONE) never |= 1 << c;
        }
        return never;
    }

    /** All ways to let the wakers, in the order that is told. */
    private List<int[]> ways() {
        List<int[]> ways = new ArrayList<>();
        ways.add(new int[0]);
        for (int k = 0; k < house.wakers.size(); k++) {
            List<int[]> longer = new ArrayList<>();
            for (int[] way : ways) {
                for (int c = 0; c <= house.clients.size(); c++) {
                    int[] next = Arrays.copyOf(way, k + 1);
                    next[k] = c == house.clients.size() ? 5 : c;
                    longer.add(next);
                }
            }
            ways = longer;
        }
        return ways;
    }

    int best(int d, int k) {
        if (house == null) return STATE;
        if (d < 0 || d > 60 || k < -2 || k > 3) return BAD;
        int[] best = null;
        int most = -1, least = 0;
        for (int[] way : ways()) {
            House then = house.letAs(way).behind(d);
            int rest = Integer.bitCount(then.rests());
            if (rest > most || rest == most && then.together() < least) {
                most = rest;
                least = then.together();
                best = way;
            }
        }
        return k == -1 ? most : k == -2 ? least : k < best.length ? best[k] : NONE;
    }

    int fewest(int clients, int d, int k) {
        if (house == null) return STATE;
        if (clients < 0 || clients >> house.clients.size() != 0 || d < 0 || d > 60 || k < -1 || k > 3) return BAD;
        int[] best = null;
        int fewest = 9;
        for (int[] way : ways()) {
            int let = (int) Arrays.stream(way).filter(c -> c != 5).count();
            if (let < fewest && (house.letAs(way).behind(d).rests() & clients) == clients) {
                fewest = let;
                best = way;
            }
        }
        return best == null ? NONE : k == -1 ? fewest : k < best.length ? best[k] : NONE;
    }

    int fits(int waker, int row, int i, int n, int what) {
        if (!isWaker(waker) || row < 0 || row > 7 || n < 1 || n > 16 || what < 0 || what > 2) return BAD;
        Object r = rows.get(row);
        if (r == null) return found(1);
        if (i < 0 || (long) i + n > sizeOf(r)) return found(2);
        Hired w = house.wakers.get(waker);
        int bits = 0;
        for (int v = 0; v <= 5; v++) {
            if (what == 0 && v != 5 && !isClient(v) || what == 1 && v == 0) continue;
            House h = house.withWaker(waker, what == 0 ? new Hired(w.sort, w.hours, w.fits, v, 0)
                    : what == 1 ? new Hired(" ocmgn".charAt(v), w.hours, w.fits, w.of, 0)
                    : new Hired(w.sort, w.hours, v, w.of, 0));
            boolean so = true;
            for (int k = 1; k <= n; k++) {
                so &= h.behind(k).rests() == java.lang.reflect.Array.getInt(r, i + k - 1);
            }
            if (so) bits |= 1 << v;
        }
        return fine(bits);
    }

    int nods(int m, int c, int what) {
        if (house == null) return STATE;
        if (m < 0 || m > 5 || c < 0 || c > 10 || what < 0 || what > 1) return BAD;
        int wakers = house.wakers.size();
        BigInteger above = BigInteger.ZERO, below = BigInteger.TEN.pow(wakers);
        for (int nodding = 0; nodding < 1 << wakers; nodding++) {
            if (Integer.bitCount(house.morrow(nodding).rests()) < m) continue;
            int nod = Integer.bitCount(nodding);
            above = above.add(BigInteger.valueOf(c).pow(nod).multiply(BigInteger.valueOf(10 - c).pow(wakers - nod)));
        }
        return (what == 0 ? above : below).divide(above.gcd(below)).intValueExact();
    }

    int drawn(int n, int seed, int what) {
        if (house == null) return STATE;
        if (n < 0 || n > 60 || seed < 1 || seed > 999999 || what < 0 || what > 1) return BAD;
        House h = house;
        BigInteger x = BigInteger.valueOf(seed);
        int often = 0;
        for (int k = 0; k < n; k++) {
            x = x.multiply(BigInteger.valueOf(16807)).mod(BigInteger.valueOf(2147483647));
            h = h.heavier(x.intValueExact() % h.clients.size(), x.intValueExact() % 5).morrow(0);
            often += Integer.bitCount(h.rests());
        }
        return what == 0 ? often : h.together();
    }

    int image(int k) {
        if (k < 0 || k > 1) return BAD;
        if (house == null) return STATE;
        images[k] = house;
        return 1;
    }

    int restore(int k) {
        if (k < 0 || k > 1) return BAD;
        if (images[k] == null) return STATE;
        house = images[k];
        past.clear();
        return 1;
    }

    private Waker person(int waker) {
        Hired h = house.wakers.get(waker);
        if (h.sort == 'g' || h.sort == 'n') {
            Guard g = h.sort == 'g' ? new Guard() : new Novice();
            g.number = waker;
            g.hours = h.hours;
            g.earned = h.earned;
            return g;
        }
        Owl o = h.sort == 'o' ? new Owl() : h.sort == 'c' ? new Clerk() : new Mother();
        o.number = waker;
        o.hours = h.hours;
        o.earned = h.earned;
        return o;
    }

    int kind(int waker) {
        return isWaker(waker) ? " ocmgn".indexOf(house.wakers.get(waker).sort) : BAD;
    }

    int as(int waker, int kind) {
        if (!isWaker(waker) || kind < 0 || kind > 5) return BAD;
        Class<?>[] kinds = {Waker.class, Owl.class, Clerk.class, Mother.class, Guard.class, Novice.class};
        return kinds[kind].isInstance(person(waker)) ? fine(waker) : found(3);
    }

    int ask(int waker, int what) {
        if (!isWaker(waker) || what < 0 || what > 1) return BAD;
        Waker w = person(waker);
        trace = w.traced();
        return what == 0 ? w.size() : w.mark();
    }

    int trace(int i) {
        return i >= 0 && i < Math.min(16, trace.size()) ? trace.get(i) : NONE;
    }

    int count(int what) {
        boolean none = house == null;
        return switch (what) {
            case 0 -> rows.size();
            case 1 -> none ? 0 : house.clients.size();
            case 2 -> none ? 0 : house.wakers.size();
            case 3 -> none ? 0 : house.night;
            case 4 -> none ? 0 : house.rests();
            case 5 -> none ? 0 : house.wakers.stream().mapToInt(Hired::earned).sum();
            case 6 -> past.size();
            case 7 -> tape.length();
            default -> BAD;
        };
    }

    int status() {
        return status;
    }
}
