import java.util.function.Supplier;
import java.util.function.ToIntFunction;

/** The order of the refusals, and that what is refused changes nothing: call by call, against a twin. */
public final class RefusalTest extends Towns {
    private static final int[] NO_MAN = {-1, 2, 7, 32, Integer.MIN_VALUE, Integer.MAX_VALUE};
    private static final int[] NO_MISHAP = {-1, 2, 4, 32, Integer.MIN_VALUE, Integer.MAX_VALUE};

    public static void main(String[] args) {
        answers();
        unknownThenOutside();
        unknownThenNot();
        unknownThenFull();
        outsideThenNot();
        outsideThenFull();
        unknownOfTwo();
        refusedTextAndTelling();
        refusedMenAndMishaps();
        refusedDeeds();
        refusedDays();
        refusedTrials();
        refusedPapers();
        refusedImages();
        fullTextChangesNothing();
        Due.end();
    }

    private static void rich(String what, int due, ToIntFunction<BlameTown> call) {
        Twins.refused(what, Twins::rich, call, due);
    }

    private static void answers() {
        Due.about("1", "They are far below all that is counted: -1000000001 and on.");
        Due.is("NONE", BlameTown.NONE, -1);
        Due.is("UNKNOWN", BlameTown.UNKNOWN, -1000000001);
        Due.is("OUTSIDE", BlameTown.OUTSIDE, -1000000002);
        Due.is("NOT", BlameTown.NOT, -1000000003);
        Due.is("FULL", BlameTown.FULL, -1000000004);
    }

    private static void unknownThenOutside() {
        Due.about("6, 7, 11, 21, 22, 24", "REFUSALS, of several the first in this order: UNKNOWN (a MAN, MISHAP, IMAGE that "
                + "there is not; bits of such), OUTSIDE (another number out of its bounds),");
        BlameTown t = Twins.rich();
        Due.is("man", t.man(2, 11), UNKNOWN);
        Due.is("man below", t.man(-1, -1), UNKNOWN);
        Due.is("mishap", t.mishap(2, 7), UNKNOWN);
        Due.is("mishap below", t.mishap(-1, -1), UNKNOWN);
        Due.is("walk", t.walk(2, 6, 0), UNKNOWN);
        Due.is("walk", t.walk(2, 0, 6), UNKNOWN);
        Due.is("nearer: MAN", t.nearer(2, 0, 2), UNKNOWN);
        Due.is("nearer: MISHAP", t.nearer(0, 2, 2), UNKNOWN);
        Due.is("chain", t.chain(2, 3), UNKNOWN);
        Due.is("see", t.see(2, 6, 0), UNKNOWN);
        Due.is("see", t.see(2, 0, 6), UNKNOWN);
        BlameTown none = new BlameTown();
        Due.is("man of no TOWN", none.man(0, 11), UNKNOWN);
        Due.is("mishap of no TOWN", none.mishap(0, 7), UNKNOWN);
        Due.is("walk of no TOWN", none.walk(0, 6, 6), UNKNOWN);
        Due.is("see of no TOWN", none.see(0, 6, 6), UNKNOWN);
    }

    private static void unknownThenNot() {
        Due.about("9, 10, 31", "NOT (not now, as told),");
        BlameTown t = Twins.plain();
        Due.is("blame, nobody could be", t.blame(0, 2), UNKNOWN);
        Due.is("blame", t.blame(2, 0), UNKNOWN);
        Due.is("clear, nobody is BLAMED", t.clear(0, 2), UNKNOWN);
        Due.is("clear", t.clear(2, 0), UNKNOWN);
        Due.is("goBack, none was kept", t.goBack(2), UNKNOWN);
        Due.is("goBack", t.goBack(-1), UNKNOWN);
        Due.is("blame, NOT", t.blame(0, 1), NOT);
        Due.is("clear, NOT", t.clear(0, 1), NOT);
        Due.is("goBack, NOT", t.goBack(1), NOT);
        BlameTown none = new BlameTown();
        Due.is("blame of no TOWN", none.blame(0, 0), UNKNOWN);
        Due.is("clear of no TOWN", none.clear(0, 0), UNKNOWN);
    }

    private static void unknownThenFull() {
        Due.about("24, 26", "FULL. They are far below");
        BlameTown t = Twins.rich();
        for (int k = 0; k < 20; k++) {
            t.see(0, 0, 0);
            t.write(0, 0);
        }
        Due.is("see, full", t.see(0, 0, 0), FULL);
        Due.is("see, UNKNOWN", t.see(2, 0, 0), UNKNOWN);
        Due.is("see, OUTSIDE", t.see(0, 6, 0), OUTSIDE);
        Due.is("see, OUTSIDE", t.see(0, 0, -1), OUTSIDE);
        Due.is("write, full", t.write(0, 0), FULL);
        Due.is("write, UNKNOWN", t.write(2, 0), UNKNOWN);
        Due.is("write, UNKNOWN", t.write(0, 2), UNKNOWN);
    }

    private static void outsideThenNot() {
        Due.about("13, 14", "OUTSIDE (another number out of its bounds), NOT (not now, as told),");
        BlameTown none = new BlameTown();
        Due.is("drift of no TOWN", none.drift(1), NOT);
        Due.is("drift, OUTSIDE", none.drift(0), OUTSIDE);
        Due.is("drift, OUTSIDE", none.drift(21), OUTSIDE);
        Due.is("undo of nothing", none.undo(1), NOT);
        Due.is("undo of nothing", none.undo(30), NOT);
        Due.is("undo, OUTSIDE", none.undo(0), OUTSIDE);
        Due.is("undo, OUTSIDE", none.undo(31), OUTSIDE);
    }

    private static void outsideThenFull() {
        Due.about("2, 13", "NOT (not now, as told), FULL.");
        BlameTown t = of("a0 1;");
        for (int k = 0; k < 451; k++) {
            t.drift(20);
        }
        Due.is("drift, full", t.drift(1), FULL);
        Due.is("drift, OUTSIDE", t.drift(0), OUTSIDE);
        Due.is("drift, OUTSIDE", t.drift(21), OUTSIDE);
        t.town();
        Due.is("no TOWN, no DAYS", t.drift(1), NOT);
        BlameTown letters = new BlameTown();
        tell(letters, times(" ", 230));
        Due.is("feed, full", letters.feed(' '), FULL);
        Due.is("feed, OUTSIDE", letters.feed(256), OUTSIDE);
        Due.is("feed, OUTSIDE", letters.feed(-1), OUTSIDE);
    }

    private static void unknownOfTwo() {
        Due.about("8, 9, 10, 21, 26", "UNKNOWN (a MAN, MISHAP, IMAGE that there is not;");
        for (int wrong : NO_MAN) {
            BlameTown t = Twins.rich();
            Due.is("belief " + wrong, t.belief(wrong, 0), UNKNOWN);
            Due.is("belief, MISHAP " + wrong, t.belief(0, wrong), UNKNOWN);
            Due.is("belief, both " + wrong, t.belief(wrong, wrong), UNKNOWN);
            Due.is("blame " + wrong, t.blame(wrong, 0), UNKNOWN);
            Due.is("blame, MISHAP " + wrong, t.blame(0, wrong), UNKNOWN);
            Due.is("clear " + wrong, t.clear(wrong, 0), UNKNOWN);
            Due.is("clear, MISHAP " + wrong, t.clear(0, wrong), UNKNOWN);
            Due.is("nearer " + wrong, t.nearer(wrong, 0, 0), UNKNOWN);
            Due.is("nearer, MISHAP " + wrong, t.nearer(0, wrong, 0), UNKNOWN);
            Due.is("write " + wrong, t.write(wrong, 0), UNKNOWN);
            Due.is("write, MISHAP " + wrong, t.write(0, wrong), UNKNOWN);
        }
    }

    private static void refusedTextAndTelling() {
        Due.about("2, 5", "What is refused changes nothing.");
        for (int letter : new int[] {-1, 256, Integer.MIN_VALUE, Integer.MAX_VALUE}) {
            rich("feed " + letter, OUTSIDE, t -> t.feed(letter));
        }
        for (int what : new int[] {-1, 12, Integer.MIN_VALUE, Integer.MAX_VALUE}) {
            rich("told " + what, OUTSIDE, t -> t.told(what));
        }
    }

    private static void refusedMenAndMishaps() {
        Due.about("6, 7, 8", "What is refused changes nothing.");
        for (int m : NO_MAN) {
            rich("man " + m, UNKNOWN, t -> t.man(m, 0));
            rich("belief " + m, UNKNOWN, t -> t.belief(m, 0));
        }
        for (int x : NO_MISHAP) {
            rich("mishap " + x, UNKNOWN, t -> t.mishap(x, 0));
            rich("belief, MISHAP " + x, UNKNOWN, t -> t.belief(0, x));
        }
        rich("man, what", OUTSIDE, t -> t.man(1, 11));
        rich("man, what below", OUTSIDE, t -> t.man(1, -1));
        rich("mishap, what", OUTSIDE, t -> t.mishap(1, 7));
        rich("mishap, what below", OUTSIDE, t -> t.mishap(1, -1));
    }

    private static void refusedDeeds() {
        Due.about("9, 10, 11", "What is refused changes nothing.");
        for (int m : NO_MAN) {
            rich("blame " + m, UNKNOWN, t -> t.blame(m, 1));
            rich("clear " + m, UNKNOWN, t -> t.clear(m, 1));
            rich("walk " + m, UNKNOWN, t -> t.walk(m, 0, 0));
        }
        for (int x : NO_MISHAP) {
            rich("blame, MISHAP " + x, UNKNOWN, t -> t.blame(1, x));
            rich("clear, MISHAP " + x, UNKNOWN, t -> t.clear(1, x));
        }
        rich("blame, he is", NOT, t -> t.blame(0, 0));
        rich("blame, it is full", NOT, t -> t.blame(1, 0));
        rich("blame, not NEAR", NOT, t -> t.blame(0, 1));
        rich("clear, he is not", NOT, t -> t.clear(0, 1));
        rich("clear, another is", NOT, t -> t.clear(1, 0));
        rich("walk, HOUR", OUTSIDE, t -> t.walk(1, 6, 0));
        rich("walk, HOUR below", OUTSIDE, t -> t.walk(1, -1, 0));
        rich("walk, PLACE", OUTSIDE, t -> t.walk(1, 0, 6));
        rich("walk, PLACE below", OUTSIDE, t -> t.walk(1, 0, -1));
        rich("walk, nowhere", OUTSIDE, t -> t.walk(0, 0, NONE));
    }

    private static void refusedDays() {
        Due.about("12, 13, 14", "What is refused changes nothing.");
        Supplier<BlameTown> none = Twins::townless;
        Twins.refused("sunset of no TOWN", none, t -> t.sunset(), NOT);
        Twins.refused("drift of no TOWN", none, t -> t.drift(20), NOT);
        Twins.refused("undo of no TOWN", none, t -> t.undo(1), NOT);
        for (int n : new int[] {-1, 0, 21, Integer.MIN_VALUE, Integer.MAX_VALUE}) {
            rich("drift " + n, OUTSIDE, t -> t.drift(n));
        }
        for (int n : new int[] {-1, 0, 31, Integer.MIN_VALUE, Integer.MAX_VALUE}) {
            rich("undo " + n, OUTSIDE, t -> t.undo(n));
        }
        rich("undo, one more than there are", NOT, t -> t.undo(3));
        rich("undo, the most", NOT, t -> t.undo(30));
    }

    private static void refusedTrials() {
        Due.about("15, 17, 18, 19, 21, 22, 23", "What is refused changes nothing.");
        for (int x : NO_MISHAP) {
            rich("may " + x, UNKNOWN, t -> t.may(x));
            if (x != NONE) {
                rich("shared " + x, UNKNOWN, t -> t.shared(x));
            }
            rich("cheapest " + x, UNKNOWN, t -> t.cheapest(x));
            rich("culprits " + x, UNKNOWN, t -> t.culprits(x));
            rich("nearer, MISHAP " + x, UNKNOWN, t -> t.nearer(0, x, 0));
            rich("chain " + x, UNKNOWN, t -> t.chain(x, 0));
        }
        rich("shared below NONE", UNKNOWN, t -> t.shared(-2));
        for (int m : NO_MAN) {
            rich("nearer " + m, UNKNOWN, t -> t.nearer(m, 0, 0));
        }
        rich("nearer, what", OUTSIDE, t -> t.nearer(0, 0, 2));
        rich("nearer, what below", OUTSIDE, t -> t.nearer(0, 0, -1));
        rich("chain, what", OUTSIDE, t -> t.chain(0, 3));
        rich("chain, what below", OUTSIDE, t -> t.chain(0, -1));
        rich("quiet, DAYS", OUTSIDE, t -> t.quiet(61, 1));
        rich("quiet, DAYS below", OUTSIDE, t -> t.quiet(-1, 1));
        rich("quiet, q", OUTSIDE, t -> t.quiet(1, 101));
        rich("quiet, q below", OUTSIDE, t -> t.quiet(1, -1));
    }

    private static BlameTown allSeenAndWritten() {
        BlameTown t = Twins.rich();
        for (int k = 0; k < 20; k++) {
            t.see(1, 0, k % 6);
            t.write(0, 0);
        }
        return t;
    }

    private static void refusedPapers() {
        Due.about("24, 25, 26, 29", "What is refused changes nothing.");
        for (int m : NO_MAN) {
            rich("see " + m, UNKNOWN, t -> t.see(m, 0, 0));
            rich("alibi " + m, UNKNOWN, t -> t.alibi(m));
            rich("write " + m, UNKNOWN, t -> t.write(m, 0));
        }
        for (int x : NO_MISHAP) {
            rich("write, MISHAP " + x, UNKNOWN, t -> t.write(0, x));
        }
        rich("see, HOUR", OUTSIDE, t -> t.see(0, 6, 0));
        rich("see, HOUR below", OUTSIDE, t -> t.see(0, -1, 0));
        rich("see, PLACE", OUTSIDE, t -> t.see(0, 0, 6));
        rich("see, PLACE below", OUTSIDE, t -> t.see(0, 0, -1));
        rich("seed below", OUTSIDE, t -> t.seed(-1));
        rich("seed far below", OUTSIDE, t -> t.seed(Integer.MIN_VALUE));
        Twins.refused("a seventh SEEN", RefusalTest::allSeenAndWritten, t -> t.see(0, 0, 5), FULL);
        Twins.refused("a 21st entry", RefusalTest::allSeenAndWritten, t -> t.write(1, 0), FULL);
    }

    private static void refusedImages() {
        Due.about("30, 31", "What is refused changes nothing.");
        for (int i : new int[] {-1, 2, 32, Integer.MIN_VALUE, Integer.MAX_VALUE}) {
            rich("keep " + i, UNKNOWN, t -> t.keep(i));
            rich("goBack " + i, UNKNOWN, t -> t.goBack(i));
        }
        Supplier<BlameTown> afterDeeds = () -> {
            BlameTown t = Twins.plain();
            t.blame(0, 0);
            t.keep(1);
            t.seed(6);
            t.blame(1, 1);
            return t;
        };
        Twins.refused("goBack, not kept", afterDeeds, t -> t.goBack(0), NOT);
    }

    private static BlameTown fullText() {
        BlameTown t = of("a0 1;m0 0 1aaaaaa;x0 0 0 0 1 9;");
        t.blame(0, 0);
        tell(t, "a0 1;" + times(" ", 225));
        return t;
    }

    private static void fullTextChangesNothing() {
        Due.about("2", "how many it has. OUTSIDE, FULL (230).");
        Twins.refused("a 231st letter", RefusalTest::fullText, t -> t.feed('m'), FULL);
        Twins.refused("none", RefusalTest::fullText, t -> t.feed(-1), OUTSIDE);
        Twins.refused("no letter", RefusalTest::fullText, t -> t.feed(256), OUTSIDE);
    }
}
