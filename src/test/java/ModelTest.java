import java.util.Random;

/** Long runs of mixed calls, right and wrong, each answer held against the model's. */
public final class ModelTest {
    private static final Check CHECK = new Check("ModelTest");
    private static final int RUNS = 400, CALLS = 512;

    private final Random random;
    private final String run;
    private final WakeLet x = new WakeLet();
    private final Model y = new Model();
    private int calls;

    private ModelTest(int seed) {
        random = new Random(seed);
        run = "run " + seed + " ";
    }

    public static void main(String[] args) {
        for (int seed = 1; seed <= RUNS; seed++) {
            ModelTest test = new ModelTest(seed);
            while (test.calls < CALLS) {
                test.step();
            }
        }
        CHECK.end();
    }

    private void due(String call, int got, int want) {
        calls++;
        CHECK.due(run + call, got, want);
    }

    /** Mostly within the bounds, at times just or far outside. */
    private int near(int least, int most) {
        int dice = random.nextInt(40);
        if (dice == 0) return least - 1;
        if (dice == 1) return most + 1;
        if (dice == 2) return random.nextInt();
        if (dice == 3) return random.nextBoolean() ? least : most;
        return least + random.nextInt(most - least + 1);
    }

    /** Seldom far, as the model tries all ways night by night. */
    private int far() {
        return near(0, random.nextInt(12) == 0 ? 60 : 8);
    }

    private String text() {
        StringBuilder s = new StringBuilder("l" + random.nextInt(21) + "," + random.nextInt(7) + ";");
        int clients = random.nextInt(20) == 0 ? 6 : 1 + random.nextInt(5);
        for (int c = 0; c < clients; c++) {
            s.append("w" + random.nextInt(41) + "," + random.nextInt(6) + ";");
        }
        int wakers = random.nextInt(20) == 0 ? 5 : random.nextInt(5);
        for (int w = 0; w < wakers; w++) {
            int of = random.nextInt(5) == 0 ? 5 : random.nextInt(clients);
            s.append("" + "ocmgn".charAt(random.nextInt(5)) + random.nextInt(10) + "," + random.nextInt(6) + "," + of + ";");
        }
        if (random.nextInt(4) == 0) {
            spoil(s);
        }
        return s.toString();
    }

    private void spoil(StringBuilder s) {
        String signs = "lwocmgnxaz,;0123456789 A" + (char) 0 + (char) 255;
        int at = random.nextInt(s.length());
        char sign = signs.charAt(random.nextInt(signs.length()));
        switch (random.nextInt(4)) {
            case 0 -> s.setCharAt(at, sign);
            case 1 -> s.insert(at, sign);
            case 2 -> s.deleteCharAt(at);
            default -> s.setLength(at);
        }
    }

    private void readText() {
        String text = text();
        for (int i = 0; i < text.length(); i++) {
            due("feed", x.feed(text.charAt(i)), y.feed(text.charAt(i)));
        }
        due("agency of " + text, x.agency(), y.agency());
        due("fault of " + text, x.fault(), y.fault());
    }

    private void step() {
        int dice = calls == 0 ? random.nextInt(9) : random.nextInt(100);
        if (dice == 0 && random.nextInt(3) == 0 || calls == 0) {
            readText();
        } else if (dice < 25) {
            act();
        } else if (dice < 45) {
            rows();
        } else if (dice < 70) {
            look();
        } else {
            foretell();
        }
    }

    private void act() {
        int w = near(0, 3), c = near(0, 5), v = near(0, 5), k = near(0, 1);
        switch (random.nextInt(9)) {
            case 0 -> { int n = near(1, random.nextBoolean() ? 3 : 24); due("nights " + n, x.nights(n), y.nights(n)); }
            case 1, 2 -> due("let " + w + " " + c, x.let(w, c), y.let(w, c));
            case 3 -> { int g = near(1, 20); due("grow " + c + " " + g, x.grow(c, g), y.grow(c, g)); }
            case 4 -> due("learn " + w + " " + v, x.learn(w, v), y.learn(w, v));
            case 5, 6 -> due("undo", x.undo(), y.undo());
            case 7 -> due("image " + k, x.image(k), y.image(k));
            default -> { if (random.nextInt(3) == 0) due("restore " + k, x.restore(k), y.restore(k)); }
        }
    }

    private void rows() {
        int r = near(0, 3), i = near(0, 8), v = near(0, 40), n = near(1, 4);
        switch (random.nextInt(9)) {
            case 0 -> { int lane = near(0, 2), size = near(-1, 20); due("row", x.row(r, lane, size), y.row(r, lane, size)); }
            case 1 -> due("set " + v, x.set(r, i, v), y.set(r, i, v));
            case 2, 3 -> lightWindows(r);
            case 4, 5 -> {
                int b = near(0, 3), j = near(0, 8), m = near(0, 8);
                due("copy " + r + " " + i + " " + b + " " + j + " " + m, x.copy(r, i, b, j, m), y.copy(r, i, b, j, m));
            }
            case 6 -> { if (random.nextInt(4) == 0) due("drop", x.drop(r), y.drop(r)); }
            default -> {
                int w = near(0, 3), what = near(0, 2), at = random.nextInt(4) == 0 ? i : 0;
                due("fits " + w + " " + at + " " + n + " " + what, x.fits(w, r, at, n, what), y.fits(w, r, at, n, what));
            }
        }
        due("status", x.status(), y.status());
    }

    /** A row is told what is to be seen, so that guesses can fit. */
    private void lightWindows(int r) {
        for (int i = 0; i < 5; i++) {
            int lit = y.rests(i + 1);
            due("set", x.set(r, i, lit), y.set(r, i, lit));
        }
    }

    private void look() {
        int w = near(0, 3), c = near(0, 4), what = near(0, 4);
        switch (random.nextInt(8)) {
            case 0 -> due("client " + c + " " + what, x.client(c, what), y.client(c, what));
            case 1 -> due("waker " + w + " " + what, x.waker(w, what), y.waker(w, what));
            case 2 -> due("kind " + w, x.kind(w), y.kind(w));
            case 3 -> { int k = near(0, 5); due("as " + w + " " + k, x.as(w, k), y.as(w, k)); due("status", x.status(), y.status()); }
            case 4 -> { int a = near(0, 1); due("ask " + w + " " + a, x.ask(w, a), y.ask(w, a)); }
            case 5 -> { int i = near(0, 6); due("trace " + i, x.trace(i), y.trace(i)); }
            default -> { int k = near(0, 7); due("count " + k, x.count(k), y.count(k)); }
        }
    }

    private void foretell() {
        int w = near(0, 3), c = near(0, 4), d = near(0, random.nextBoolean() ? 8 : 60), set = near(0, 31);
        switch (random.nextInt(11)) {
            case 0 -> due("weight " + c + " " + d, x.weight(c, d), y.weight(c, d));
            case 1 -> due("earned " + w + " " + d, x.earned(w, d), y.earned(w, d));
            case 2 -> due("rests " + d, x.rests(d), y.rests(d));
            case 3 -> due("when " + c, x.when(c), y.when(c));
            case 4 -> due("all " + set, x.all(set), y.all(set));
            case 5 -> due("never", x.never(), y.never());
            case 6 -> { int k = near(-2, 3), e = far(); due("best " + e + " " + k, x.best(e, k), y.best(e, k)); }
            case 7 -> { int k = near(-1, 3), e = far(); due("fewest " + set + " " + e + " " + k, x.fewest(set, e, k), y.fewest(set, e, k)); }
            case 8, 9 -> {
                int m = near(0, 5), nod = near(0, 10), what = near(0, 1);
                due("nods " + m + " " + nod + " " + what, x.nods(m, nod, what), y.nods(m, nod, what));
            }
            default -> {
                int seed = near(1, 999999), what = near(0, 1);
                due("drawn " + d + " " + seed + " " + what, x.drawn(d, seed, what), y.drawn(d, seed, what));
            }
        }
    }
}
