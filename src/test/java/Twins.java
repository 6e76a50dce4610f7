import java.util.ArrayList;
import java.util.List;
import java.util.function.Supplier;
import java.util.function.ToIntFunction;

/**
 * What a call changes is seen by two objects that are made alike: one gets the call, the other does not; then
 * both are asked all that can be asked, and gone back with as far as they go.
 */
final class Twins {
    private Twins() {
    }

    /**
     * Two men, two MISHAPS that are FAR; both IMAGES; both MEN BLAMED, one WALKS; two deeds can be undone;
     * one SEEN, two in THE BOOK; a text waits.
     */
    static BlameTown rich() {
        BlameTown t = Towns.of("a1 100;m1 0 5aaaaaa;m1 0 6bbbbbb;x0 1 1 0 1 9;x2 1 1 1 2 0;");
        t.seed(77);
        t.keep(0);
        t.seed(78);
        t.blame(0, 0);
        t.keep(1);
        t.seed(79);
        t.walk(1, 0, 4);
        t.blame(1, 1);
        t.see(0, 0, 5);
        t.write(0, 0);
        t.write(1, 0);
        Towns.tell(t, "a2 7;");
        return t;
    }

    /** The same MEN and MISHAPS, but no deed, nothing kept, SEEN, written, waiting. */
    static BlameTown plain() {
        return Towns.of("a1 100;m1 0 5aaaaaa;m1 0 6bbbbbb;x0 1 1 0 1 9;x2 1 1 1 2 0;");
    }

    /** No TOWN, but an IMAGE, a SEED and a text that waits. */
    static BlameTown townless() {
        BlameTown t = new BlameTown();
        t.seed(5);
        t.keep(1);
        Towns.tell(t, "a0 3;x0 0 0 0 1 9;");
        return t;
    }

    static void refused(String what, Supplier<BlameTown> made, ToIntFunction<BlameTown> call, int due) {
        BlameTown called = made.get();
        Due.is(what, call.applyAsInt(called), due);
        same(what + " changes nothing", called, made.get());
    }

    static void unchanged(String what, Supplier<BlameTown> made, ToIntFunction<BlameTown> call) {
        BlameTown called = made.get();
        int answer = call.applyAsInt(called);
        Due.that(what + " is not refused", answer >= Towns.NONE);
        same(what + " changes nothing", called, made.get());
    }

    static void same(String what, BlameTown one, BlameTown other) {
        Due.that(what, one.fault() == other.fault());
        sameButFault(what, one, other);
    }

    /** The letter of the latest FAULT may be another one. */
    static void sameButFault(String what, BlameTown one, BlameTown other) {
        Due.that(what, asked(one).equals(asked(other)));
    }

    /** Some 220 calls with two MEN and two MISHAPS. */
    static List<Integer> asked(BlameTown t) {
        List<Integer> all = new ArrayList<>();
        tellings(t, all);
        int men = t.told(3);
        int mishaps = t.told(4);
        for (int m = 0; m < men; m++) {
            all.add(t.alibi(m));
            for (int what = 0; what < 11; what++) {
                all.add(t.man(m, what));
            }
            for (int x = 0; x < mishaps; x++) {
                all.add(t.belief(m, x));
                all.add(t.nearer(m, x, 0));
                all.add(t.nearer(m, x, 1));
            }
        }
        for (int x = 0; x < mishaps; x++) {
            for (int what = 0; what < 7; what++) {
                all.add(t.mishap(x, what));
            }
            all.add(t.may(x));
            all.add(t.shared(x));
            all.add(t.cheapest(x));
            all.add(t.culprits(x));
            all.add(t.chain(x, 2));
        }
        all.add(t.shared(-1));
        all.add(t.orphans());
        all.add(t.idle());
        all.add(t.quiet(1, 50));
        all.add(t.judge());
        goneBack(t, all);
        all.add(t.town());
        all.add(t.fault());
        tellings(t, all);
        return all;
    }

    private static void goneBack(BlameTown t, List<Integer> all) {
        int seed = t.seed(0);
        t.seed(seed);
        all.add(seed);
        for (int k = 0; k < 3; k++) {
            all.add(t.undo(1));
            standing(t, all);
        }
        for (int i = 0; i < 2; i++) {
            all.add(t.goBack(i));
            standing(t, all);
            all.add(t.seed(0));
        }
    }

    private static void tellings(BlameTown t, List<Integer> all) {
        for (int what = 0; what < 12; what++) {
            all.add(t.told(what));
        }
    }

    private static void standing(BlameTown t, List<Integer> all) {
        all.add(t.told(6));
        all.add(t.told(7));
        all.add(t.told(11));
        for (int m = 0; m < t.told(3); m++) {
            for (int what = 3; what < 11; what++) {
                all.add(t.man(m, what));
            }
        }
        for (int x = 0; x < t.told(4); x++) {
            all.add(t.mishap(x, 6));
        }
    }
}
