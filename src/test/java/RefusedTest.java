import java.util.ArrayList;
import java.util.List;
import java.util.function.BiConsumer;
import java.util.function.Consumer;
import java.util.function.ToIntFunction;

/**
 * "What is refused, or found, changes nothing but status()", for each call: of two objects that were made alike one
 * gets the call, and then all that can be seen of both is held against each other. Each look is at a pair of its own,
 * as a look may change what it looks at, and an object has 512 calls.
 */
public final class RefusedTest extends Sentences {
    private static final List<BiConsumer<WakeLet, List<Integer>>> LOOKS = List.of(
            RefusedTest::lookAtNow, RefusedTest::lookAhead, RefusedTest::lookAtActs,
            (x, seen) -> lookAtImage(x, 0, seen), (x, seen) -> lookAtImage(x, 1, seen),
            RefusedTest::lookAtTape, RefusedTest::lookAtRows);

    public static void main(String[] args) {
        run(RefusedTest.class);
    }

    // ---- what can be seen

    private static void lookAtNow(WakeLet x, List<Integer> seen) {
        seen.add(x.fault());
        for (int k = 0; k <= 16; k++) {
            seen.add(x.trace(k));
        }
        lookAtAgency(x, seen);
    }

    private static void lookAtAgency(WakeLet x, List<Integer> seen) {
        for (int k = 0; k <= 7; k++) {
            seen.add(x.count(k));
        }
        for (int what = 0; what <= 4; what++) {
            for (int k = 0; k <= 4; k++) {
                seen.add(x.client(k, what));
                seen.add(x.waker(k, what));
            }
        }
        for (int w = 0; w <= 3; w++) {
            seen.add(x.kind(w));
        }
    }

    /** Bears and the moon show only in nights to come. */
    private static void lookAhead(WakeLet x, List<Integer> seen) {
        for (int d = 0; d <= 9; d++) {
            seen.add(x.rests(d));
            for (int k = 0; k <= 4; k++) {
                seen.add(x.weight(k, d));
                seen.add(x.earned(k, d));
            }
        }
    }

    private static void lookAtActs(WakeLet x, List<Integer> seen) {
        for (int k = 0; k <= 24; k++) {
            seen.add(x.undo());
            for (int c = 0; c <= 2; c++) {
                seen.add(x.client(c, 0));
            }
            for (int w = 0; w <= 1; w++) {
                seen.add(x.waker(w, 1));
                seen.add(x.waker(w, 2));
                seen.add(x.waker(w, 4));
            }
            seen.add(x.count(3));
        }
    }

    private static void lookAtImage(WakeLet x, int k, List<Integer> seen) {
        seen.add(x.restore(k));
        lookAtAgency(x, seen);
        lookAhead(x, seen);
    }

    /** The tape told here begins a text, which is ended so. */
    private static void lookAtTape(WakeLet x, List<Integer> seen) {
        seen.add(read(x, "3,2;w7,4;"));
        seen.add(x.fault());
        lookAtAgency(x, seen);
    }

    private static void lookAtRows(WakeLet x, List<Integer> seen) {
        x.agency();
        read(x, READER);
        for (int r = 0; r <= 7; r++) {
            for (int i = 0; i <= 5; i++) {
                seen.add(item(x, r, i));
            }
            seen.add(x.set(r, 0, 70000));
            seen.add(x.drop(r));
        }
    }

    // ---- what is held against each other

    /** Some of everything; the latest finding is 5. */
    private static void some(WakeLet x) {
        read(x, "l21");
        read(x, "l8,3;w20,1;w15,2;w9,0;o5,1,0;n3,0,1;");
        x.image(1);
        x.nights(2);
        x.let(0, 1);
        x.grow(2, 7);
        x.image(0);
        x.learn(1, 4);
        x.nights(3);
        x.ask(1, 1);
        fill(x, 0, 0, 1, 2, 4);
        fill(x, 1, 1, 8, 16);
        fill(x, 6, 2, 1, 16, 2, 8, 4);
        x.row(7, 2, 0);
        x.feed('l');
        x.copy(0, 0, 1, 0, 1);
    }

    private static List<Integer> seen(Consumer<WakeLet> made, ToIntFunction<WakeLet> call,
            BiConsumer<WakeLet, List<Integer>> look) {
        WakeLet x = new WakeLet();
        made.accept(x);
        call.applyAsInt(x);
        List<Integer> seen = new ArrayList<>();
        look.accept(x, seen);
        return seen;
    }

    private static void leaves(String name, Consumer<WakeLet> made, ToIntFunction<WakeLet> call, int answer) {
        WakeLet x = new WakeLet();
        made.accept(x);
        int before = x.status();
        due(name, call.applyAsInt(x), answer);
        boolean found = answer <= NULL && answer >= STORE;
        due("status behind " + name, x.status(), found ? -1000010 - answer : before);
        for (int k = 0; k < LOOKS.size(); k++) {
            List<Integer> left = seen(made, y -> 0, LOOKS.get(k));
            List<Integer> then = seen(made, call, LOOKS.get(k));
            for (int i = 0; i < left.size(); i++) {
                due("look " + k + " at " + i + " behind " + name, then.get(i), left.get(i));
            }
        }
    }

    private static void leaves(String name, ToIntFunction<WakeLet> call, int answer) {
        leaves(name, RefusedTest::some, call, answer);
    }

    // ---- the calls

    static void promise2RefusedOrFoundLeavesAll() {
        leaves("row -1", x -> x.row(-1, 0, 3), BAD);
        leaves("row 8", x -> x.row(8, 0, 3), BAD);
        leaves("lane 3", x -> x.row(0, 3, 3), BAD);
        leaves("n 41", x -> x.row(0, 0, 41), BAD);
        leaves("n -1", x -> x.row(0, 0, -1), SIZE);
        leaves("n -1, missing", x -> x.row(3, 0, -1), SIZE);
    }

    static void promise3RefusedOrFoundLeavesAll() {
        leaves("row 8", x -> x.set(8, 0, 16), BAD);
        leaves("missing", x -> x.set(3, 0, 16), NULL);
        leaves("place -1", x -> x.set(0, -1, 16), PLACE);
        leaves("place 3", x -> x.set(0, 3, 16), PLACE);
        leaves("empty", x -> x.set(7, 0, 16), PLACE);
    }

    static void promise4RefusedOrFoundLeavesAll() {
        leaves("row 8", x -> x.copy(0, 0, 8, 0, 1), BAD);
        leaves("missing", x -> x.copy(0, 0, 3, 0, 1), NULL);
        leaves("lanes", x -> x.copy(0, 0, 1, 0, 2), STORE);
        leaves("beyond the end", x -> x.copy(6, 0, 6, 2, 4), PLACE);
        leaves("n -1", x -> x.copy(6, 1, 6, 1, -1), PLACE);
    }

    static void promise5RefusedOrFoundLeavesAll() {
        leaves("row 8", x -> x.drop(8), BAD);
        leaves("missing", x -> x.drop(3), NULL);
    }

    static void promise6RefusedLeavesAll() {
        leaves("256", x -> x.feed(256), BAD);
        leaves("-1", x -> x.feed(-1), BAD);
        Consumer<WakeLet> full = x -> {
            some(x);
            for (int n = 0; n < 99; n++) {
                x.feed('0');
            }
        };
        leaves("full", full, x -> x.feed('0'), FULL);
    }

    /** But for the tape, which is empty then, and the fault. */
    static void promise7AFaultLeavesAll() {
        Consumer<WakeLet> withFault = x -> {
            some(x);
            x.agency();
        };
        leaves("an empty tape", withFault, WakeLet::agency, -1000100);
    }

    static void promise9RefusedLeavesAll() {
        leaves("0", x -> x.nights(0), BAD);
        leaves("25", x -> x.nights(25), BAD);
        leaves("no agency", x -> { }, x -> x.nights(1), STATE);
        Consumer<WakeLet> late = x -> {
            some(x);
            passNights(x, 985);
        };
        leaves("beyond night 999", late, x -> x.nights(10), FULL);
    }

    static void promise10RefusedLeavesAll() {
        leaves("waker 2", x -> x.let(2, 0), BAD);
        leaves("client 3", x -> x.let(0, 3), BAD);
        leaves("client 6", x -> x.let(0, 6), BAD);
        leaves("it is so", x -> x.let(0, 1), STATE);
    }

    static void promise11RefusedLeavesAll() {
        leaves("client 3", x -> x.grow(3, 1), BAD);
        leaves("0", x -> x.grow(0, 0), BAD);
        leaves("21", x -> x.grow(0, 21), BAD);
    }

    static void promise12RefusedLeavesAll() {
        leaves("waker 2", x -> x.learn(2, 0), BAD);
        leaves("6", x -> x.learn(0, 6), BAD);
        leaves("-1", x -> x.learn(0, -1), BAD);
    }

    static void promise13RefusedLeavesAll() {
        Consumer<WakeLet> allUndone = x -> {
            some(x);
            for (int k = 0; k < 8; k++) {
                x.undo();
            }
        };
        leaves("none", allUndone, WakeLet::undo, STATE);
        leaves("no agency", x -> { }, WakeLet::undo, STATE);
    }

    static void promise14RefusedLeavesAll() {
        leaves("client 3", x -> x.client(3, 0), BAD);
        leaves("what 5", x -> x.client(0, 5), BAD);
    }

    static void promise15RefusedLeavesAll() {
        leaves("waker 2", x -> x.waker(2, 0), BAD);
        leaves("what 5", x -> x.waker(0, 5), BAD);
    }

    static void promise16RefusedLeavesAll() {
        leaves("client 3", x -> x.weight(3, 1), BAD);
        leaves("d 61", x -> x.weight(0, 61), BAD);
    }

    static void promise17RefusedLeavesAll() {
        leaves("waker 2", x -> x.earned(2, 1), BAD);
        leaves("d 61", x -> x.earned(0, 61), BAD);
    }

    static void promise18RefusedLeavesAll() {
        leaves("d 61", x -> x.rests(61), BAD);
        leaves("no agency", x -> { }, x -> x.rests(1), STATE);
    }

    static void promise19RefusedOrNoneLeavesAll() {
        leaves("client 3", x -> x.when(3), BAD);
        leaves("never", x -> x.when(0), NONE);
    }

    static void promise20RefusedOrNoneLeavesAll() {
        leaves("client 3", x -> x.all(8), BAD);
        leaves("never", x -> x.all(1), NONE);
        leaves("no agency", x -> { }, x -> x.all(0), STATE);
    }

    static void promise21RefusedLeavesAll() {
        leaves("no agency", x -> { }, WakeLet::never, STATE);
    }

    static void promise22RefusedOrNoneLeavesAll() {
        leaves("k 4", x -> x.best(9, 4), BAD);
        leaves("no such waker", x -> x.best(9, 2), NONE);
        leaves("no agency", x -> { }, x -> x.best(9, -1), STATE);
    }

    static void promise23RefusedOrNoneLeavesAll() {
        leaves("client 3", x -> x.fewest(8, 9, -1), BAD);
        leaves("no such waker", x -> x.fewest(1, 9, 2), NONE);
        leaves("by none", x -> x.fewest(7, 0, -1), NONE);
        leaves("no agency", x -> { }, x -> x.fewest(1, 9, -1), STATE);
    }

    static void promise24RefusedOrFoundLeavesAll() {
        leaves("waker 2", x -> x.fits(2, 0, 0, 1, 0), BAD);
        leaves("what 3", x -> x.fits(0, 0, 0, 1, 3), BAD);
        leaves("missing", x -> x.fits(0, 3, 0, 1, 0), NULL);
        leaves("place 3", x -> x.fits(0, 0, 3, 1, 0), PLACE);
    }

    static void promise25RefusedLeavesAll() {
        leaves("m 6", x -> x.nods(6, 3, 0), BAD);
        leaves("no agency", x -> { }, x -> x.nods(1, 3, 0), STATE);
    }

    static void promise26RefusedLeavesAll() {
        leaves("seed 0", x -> x.drawn(9, 0, 0), BAD);
        leaves("no agency", x -> { }, x -> x.drawn(9, 1, 0), STATE);
    }

    static void promise27RefusedLeavesAll() {
        leaves("2", x -> x.image(2), BAD);
        leaves("-1", x -> x.image(-1), BAD);
        leaves("no agency", x -> { }, x -> x.image(0), STATE);
    }

    static void promise28RefusedLeavesAll() {
        leaves("2", x -> x.restore(2), BAD);
        Consumer<WakeLet> withoutImages = x -> {
            read(x, "l8,3;w20,1;w15,2;w9,0;o5,1,0;n3,0,1;");
            x.nights(3);
        };
        leaves("none was kept", withoutImages, x -> x.restore(0), STATE);
    }

    static void promise29RefusedLeavesAll() {
        leaves("waker 2", x -> x.kind(2), BAD);
    }

    static void promise30RefusedOrFoundLeavesAll() {
        leaves("waker 2", x -> x.as(2, 0), BAD);
        leaves("kind 6", x -> x.as(0, 6), BAD);
        leaves("no mother", x -> x.as(0, 3), KIND);
    }

    static void promise31RefusedLeavesAll() {
        leaves("waker 2", x -> x.ask(2, 0), BAD);
        leaves("what 2", x -> x.ask(0, 2), BAD);
    }

    static void promise32NoneLeavesAll() {
        leaves("5", x -> x.trace(5), NONE);
        leaves("-1", x -> x.trace(-1), NONE);
    }

    static void promise33RefusedLeavesAll() {
        leaves("8", x -> x.count(8), BAD);
    }

    /** What is foretold, or looked at, changes nothing either. */
    static void promise16WhatIsForetoldLeavesAll() {
        leaves("weight", x -> x.weight(0, 60), 73);
        leaves("earned", x -> x.earned(0, 60), 325);
        leaves("rests", x -> x.rests(60), 2);
        leaves("never", WakeLet::never, 5);
        leaves("best", x -> x.best(60, -1), 2);
        leaves("fewest", x -> x.fewest(2, 60, -1), 1);
        leaves("nods", x -> x.nods(1, 3, 1), 1);
        leaves("drawn", x -> x.drawn(1, 1, 0), 1);
    }
}
