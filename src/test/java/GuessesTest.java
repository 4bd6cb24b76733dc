/** Promises 24 to 28. */
public final class GuessesTest {
    private static final Check CHECK = new Check("GuessesTest");
    private static final int NULL = -1000011, PLACE = -1000012;

    public static void main(String[] args) {
        fits();
        wrongFits();
        nods();
        drawn();
        images();
        CHECK.end();
    }

    private static void windows(WakeLet x, int row, int... lit) {
        x.row(row, 0, lit.length);
        for (int i = 0; i < lit.length; i++) {
            x.set(row, i, lit[i]);
        }
    }

    private static void fits() {
        WakeLet x = Check.open("l0,1;w8,1;w8,2;o4,1,0;");
        windows(x, 0, 0, 1, 1);
        CHECK.due("24: let to the first", x.fits(0, 0, 0, 3, 0), 1);
        CHECK.due("24: all but a clerk, a mother", x.fits(0, 0, 0, 3, 1), 1 << 1 | 1 << 4 | 1 << 5);
        CHECK.due("24: his worry", x.fits(0, 0, 0, 3, 2), 2);
        windows(x, 1, 1, 1, 1);
        CHECK.due("24: a mother", x.fits(0, 1, 0, 3, 1), 1 << 3);
        CHECK.due("24: none let so", x.fits(0, 1, 0, 3, 0), 0);
        windows(x, 2, 0, 0, 0, 1);
        CHECK.due("24: half of it, or a clerk's night off", x.fits(0, 2, 0, 4, 2), 0b111101);
        CHECK.due("24: nobody, or the second, for one night", x.fits(0, 2, 0, 1, 0), 0b100011);
        CHECK.due("24: three dark nights", x.fits(0, 2, 0, 3, 0), 0b100010);
        CHECK.due("24: a part of a row", x.fits(0, 0, 1, 1, 0), 0);
        x.nights(1);
        CHECK.due("24: from this night on", x.fits(0, 0, 1, 2, 1), 1 << 1 | 1 << 3 | 1 << 4 | 1 << 5);
        CHECK.due("24: nothing changes", x.kind(0), 1);
        CHECK.due("24: nor whose he is", x.waker(0, 2), 0);
        CHECK.due("24: nor what fits", x.waker(0, 1), 1);
        x.row(3, 2, 40);
        x.row(7, 0, 1);
        CHECK.due("24: the last row", x.fits(0, 7, 0, 1, 0), 0b100010);
        CHECK.due("24: 16 nights", x.fits(0, 3, 24, 16, 0), 0b100000);
    }

    private static void wrongFits() {
        WakeLet x = Check.open("l0,1;w8,1;o4,1,0;");
        x.row(0, 0, 5);
        CHECK.due("24: waker 1", x.fits(1, 0, 0, 1, 0), WakeLet.BAD);
        CHECK.due("24: waker -1", x.fits(-1, 0, 0, 1, 0), WakeLet.BAD);
        CHECK.due("24: row 8", x.fits(0, 8, 0, 1, 0), WakeLet.BAD);
        CHECK.due("24: row -1", x.fits(0, -1, 0, 1, 0), WakeLet.BAD);
        CHECK.due("24: n 0", x.fits(0, 0, 0, 0, 0), WakeLet.BAD);
        CHECK.due("24: n 17", x.fits(0, 0, 0, 17, 0), WakeLet.BAD);
        CHECK.due("24: what -1", x.fits(0, 0, 0, 1, -1), WakeLet.BAD);
        CHECK.due("24: what 3", x.fits(0, 0, 0, 1, 3), WakeLet.BAD);
        CHECK.due("24: bad before null", x.fits(0, 1, 0, 0, 0), WakeLet.BAD);
        CHECK.due("24: null before place", x.fits(0, 1, -1, 1, 0), NULL);
        CHECK.due("34: null", x.status(), 1);
        CHECK.due("24: place -1", x.fits(0, 0, -1, 1, 0), PLACE);
        CHECK.due("34: place", x.status(), 2);
        CHECK.due("24: place 5", x.fits(0, 0, 5, 1, 0), PLACE);
        CHECK.due("24: too long", x.fits(0, 0, 1, 5, 0), PLACE);
        CHECK.due("24: sums run over", x.fits(0, 0, Integer.MAX_VALUE, 16, 0), PLACE);
        CHECK.due("34: bad leaves it", x.fits(0, 0, 0, 1, 3), WakeLet.BAD);
        CHECK.due("34: place still", x.status(), 2);
        CHECK.due("24: all of it", x.fits(0, 0, 0, 1, 0), 0b100001);
        CHECK.due("34: none", x.status(), 0);
    }

    private static void fraction(WakeLet x, int m, int c, int above, int below) {
        CHECK.due("25: above of " + m + ", " + c, x.nods(m, c, 0), above);
        CHECK.due("25: below of " + m + ", " + c, x.nods(m, c, 1), below);
    }

    private static void nods() {
        CHECK.due("25: no agency", new WakeLet().nods(-1, 0, 0), WakeLet.STATE);
        WakeLet x = Check.open("l5,6;w9,1;w9,1;o4,1,0;o9,1,0;m2,1,1;g9,2,5;");
        fraction(x, 0, 3, 1, 1);
        fraction(x, 1, 3, 973, 1000);
        fraction(x, 2, 3, 637, 1000);
        fraction(x, 3, 3, 0, 1);
        fraction(x, 5, 3, 0, 1);
        fraction(x, 2, 5, 3, 8);
        fraction(x, 2, 0, 1, 1);
        fraction(x, 2, 10, 0, 1);
        fraction(x, 0, 10, 1, 1);
        CHECK.due("25: nothing changes", x.count(3), 0);
        CHECK.due("25: m -1", x.nods(-1, 0, 0), WakeLet.BAD);
        CHECK.due("25: m 6", x.nods(6, 0, 0), WakeLet.BAD);
        CHECK.due("25: c -1", x.nods(0, -1, 0), WakeLet.BAD);
        CHECK.due("25: c 11", x.nods(0, 11, 0), WakeLet.BAD);
        CHECK.due("25: what -1", x.nods(0, 0, -1), WakeLet.BAD);
        CHECK.due("25: what 2", x.nods(0, 0, 2), WakeLet.BAD);
        WakeLet y = Check.open("l5,6;w5,1;w0,1;");
        fraction(y, 1, 4, 1, 1);
        fraction(y, 2, 4, 0, 1);
        WakeLet z = Check.open("l0,6;w1,1;w1,2;w1,3;w1,4;o2,0,0;o2,0,1;o2,0,2;o2,0,3;");
        fraction(z, 4, 1, 6561, 10000);
        fraction(z, 1, 9, 3439, 10000);
        fraction(z, 4, 4, 81, 625);
    }

    private static void drawn() {
        CHECK.due("26: no agency", new WakeLet().drawn(-1, 0, 0), WakeLet.STATE);
        WakeLet x = Check.open("l5,6;w9,1;w0,2;o4,1,0;");
        CHECK.due("26: no night, nobody yet", x.drawn(0, 1, 0), 0);
        CHECK.due("26: no night, weights", x.drawn(0, 1, 1), 9);
        // 16807 is odd, and leaves 2 by 5: the second worry becomes 2, then 3; the first 5.
        CHECK.due("26: one night, two rest", x.drawn(1, 1, 0), 2);
        CHECK.due("26: one night, weights", x.drawn(1, 1, 1), 8);
        // 282475249 is odd, and leaves 4: the second worry becomes 7, then 8; the first 1.
        CHECK.due("26: two nights", x.drawn(2, 1, 0), 3);
        CHECK.due("26: two nights, weights", x.drawn(2, 1, 1), 9);
        CHECK.due("26: nothing changes", x.client(0, 0), 9);
        CHECK.due("26: n -1", x.drawn(-1, 1, 0), WakeLet.BAD);
        CHECK.due("26: n 61", x.drawn(61, 1, 0), WakeLet.BAD);
        CHECK.due("26: seed 0", x.drawn(1, 0, 0), WakeLet.BAD);
        CHECK.due("26: seed 1000000", x.drawn(1, 1000000, 0), WakeLet.BAD);
        CHECK.due("26: what -1", x.drawn(1, 1, -1), WakeLet.BAD);
        CHECK.due("26: what 2", x.drawn(1, 1, 2), WakeLet.BAD);
        WakeLet y = Check.open("l0,6;w40,1;");
        CHECK.due("26: 99 at most", y.drawn(60, 999999, 1), 99);
        CHECK.due("26: nobody", y.drawn(60, 999999, 0), 0);
    }

    private static void images() {
        WakeLet x = new WakeLet();
        CHECK.due("27: bad before state", x.image(2), WakeLet.BAD);
        CHECK.due("27: -1", x.image(-1), WakeLet.BAD);
        CHECK.due("27: no agency", x.image(0), WakeLet.STATE);
        CHECK.due("28: bad before state", x.restore(-1), WakeLet.BAD);
        CHECK.due("28: 2", x.restore(2), WakeLet.BAD);
        CHECK.due("28: none", x.restore(0), WakeLet.STATE);
        Check.read(x, "l5,6;w9,1;w0,2;c4,1,0;m1,2,5;");
        x.nights(3);
        CHECK.due("27: kept", x.image(1), 1);
        CHECK.due("27: acts stay", x.count(6), 3);
        CHECK.due("28: the other was not", x.restore(0), WakeLet.STATE);
        x.nights(4);
        x.let(1, 0);
        x.learn(0, 3);
        x.grow(1, 20);
        CHECK.due("27: the other", x.image(0), 1);
        Check.read(x, "l1,1;w1,0;");
        CHECK.due("28: back", x.restore(1), 1);
        CHECK.due("28: no acts", x.undo(), WakeLet.STATE);
        CHECK.due("28: clients", x.count(1), 2);
        CHECK.due("28: wakers", x.count(2), 2);
        CHECK.due("28: night", x.count(3), 3);
        CHECK.due("28: earned", x.waker(0, 4), 12);
        CHECK.due("28: kind", x.kind(1), 3);
        CHECK.due("28: to nobody", x.waker(1, 2), 5);
        CHECK.due("28: fits", x.waker(0, 1), 1);
        CHECK.due("28: bears", x.count(4), 3);
        CHECK.due("28: moon", x.earned(0, 4), 24);
        x.nights(1);
        CHECK.due("28: again", x.restore(1), 1);
        CHECK.due("28: no acts again", x.count(6), 0);
        CHECK.due("28: as kept", x.count(3), 3);
        CHECK.due("28: the other", x.restore(0), 1);
        CHECK.due("28: its night", x.count(3), 7);
        CHECK.due("28: its weight", x.client(1, 0), 20);
        CHECK.due("28: its fits", x.waker(0, 1), 3);
    }
}
