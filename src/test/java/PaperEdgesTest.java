/** The edges of what was SEEN, THE BOOK, THE SEED and the IMAGES, and of promises 24 to 31. */
public final class PaperEdgesTest extends Towns {
    private static final String A = "a0 1;";
    private static final String M = "m0 0 1------;";
    private static final String X = "x0 0 0 0 1 9;";

    public static void main(String[] args) {
        seeBounds();
        seenMost();
        alibiSteps();
        alibiByAll();
        alibiBounds();
        bookMost();
        writeBounds();
        wrongFirst();
        wrongNow();
        tear();
        tearMost();
        seedBounds();
        seedAtFirst();
        keepBounds();
        keepUndone();
        goBackNot();
        goBackUndone();
        imagesKeep();
        imagesKeepNoMore();
        imagesApart();
        imagesWithoutTown();
        calls512();
        Due.end();
    }

    private static void seeBounds() {
        Due.about("24", "SEEN: how much. UNKNOWN, OUTSIDE, FULL (6).");
        BlameTown t = of(A + M + M);
        Due.is("no MAN", t.see(2, 0, 0), UNKNOWN);
        Due.is("no MAN below", t.see(-1, 0, 0), UNKNOWN);
        Due.is("HOUR below", t.see(0, -1, 0), OUTSIDE);
        Due.is("HOUR above", t.see(0, 6, 0), OUTSIDE);
        Due.is("PLACE below", t.see(0, 0, -1), OUTSIDE);
        Due.is("PLACE above", t.see(0, 0, 6), OUTSIDE);
        Due.is("nothing SEEN so far", t.told(9), 0);
        Due.is("the first MAN, HOUR, PLACE", t.see(0, 0, 0), 1);
        Due.is("the last MAN, HOUR, PLACE", t.see(1, 5, 5), 2);
        for (int k = 3; k <= 6; k++) {
            Due.is("the same again", t.see(1, 5, 5), k);
        }
        Due.is("a seventh", t.see(1, 5, 5), FULL);
        Due.is("no TOWN", new BlameTown().see(0, 0, 0), UNKNOWN);
    }

    private static void seenMost() {
        Due.about("24", "SEEN (6 at most): at HOUR t a MAN was at PLACE l.");
        BlameTown t = of(A + M + M + "x0 0 0 0 1 9;x5 0 0 0 1 9;");
        for (int k = 1; k <= 5; k++) {
            Due.is("the " + k + ". one", t.see(0, 5, 5), k);
        }
        Due.is("the sixth", t.see(1, 0, 0), 6);
        Due.is("the seventh", t.see(1, 0, 5), FULL);
        Due.is("six", t.told(9), 6);
        Due.is("the sixth counts, the seventh does not", t.alibi(1), 2);
        t.tear();
        Due.is("one again", t.see(1, 0, 5), 1);
    }

    private static void alibiSteps() {
        Due.about("25", "MISHAPS to which he cannot have come by all that was SEEN of him (a PLACE a HOUR at most; "
                + "a SET of MISHAPS).");
        for (int group = 0; group < 9; group++) {
            StringBuilder text = new StringBuilder(A + M);
            for (int k = 0; k < 4; k++) {
                text.append("x").append((group * 4 + k) / 6).append(" ").append((group * 4 + k) % 6).append(" 0 0 1 9;");
            }
            BlameTown t = of(text.toString());
            for (int place = 0; place < 6; place++) {
                for (int hour = 0; hour < 6; hour++) {
                    int due = 0;
                    for (int k = 0; k < 4; k++) {
                        int steps = Math.abs((group * 4 + k) / 6 - place);
                        int hours = Math.abs((group * 4 + k) % 6 - hour);
                        due |= steps > hours ? 1 << k : 0;
                    }
                    t.see(0, hour, place);
                    Due.is("group " + group + ", SEEN at " + place + ", " + hour, t.alibi(0), due);
                    t.tear();
                }
            }
        }
    }

    private static void alibiByAll() {
        Due.about("25", "by all that was SEEN of him");
        BlameTown t = of(A + M + M + "x2 2 0 0 1 9;x0 5 0 0 1 9;x5 5 0 0 1 9;x2 3 0 0 1 9;");
        Due.is("nothing SEEN", t.alibi(0), 0);
        t.see(1, 2, 5);
        Due.is("another one was SEEN", t.alibi(0), 0);
        Due.is("of him", t.alibi(1), 1 + 2 + 8);
        t.see(0, 0, 0);
        Due.is("5 PLACES in 5 HOURS, 2 in 2, 2 in 3", t.alibi(0), 0);
        t.see(0, 1, 0);
        Due.is("5 PLACES in 4 HOURS, 2 in 1", t.alibi(0), 1 + 4);
        t.see(0, 4, 4);
        Due.is("back in time, too: 2 in 2, 2 in 1; 4 in 1", t.alibi(0), 1 + 2 + 4 + 8);
        Due.is("his alone", t.alibi(1), 1 + 2 + 8);
        t.sunset();
        Due.is("SEEN stays at SUNSET", t.alibi(0), 15);
    }

    private static void alibiBounds() {
        Due.about("25", "`int alibi(int m)`: ALIBI. UNKNOWN.");
        BlameTown t = of(A + times(M, 7) + X);
        t.see(6, 0, 1);
        Due.is("the last MAN", t.alibi(6), 1);
        Due.is("the first MAN", t.alibi(0), 0);
        Due.is("above", t.alibi(7), UNKNOWN);
        Due.is("below", t.alibi(-1), UNKNOWN);
        Due.is("no TOWN", new BlameTown().alibi(0), UNKNOWN);
        BlameTown none = of(A + M);
        none.see(0, 0, 0);
        Due.is("no MISHAPS", none.alibi(0), 0);
    }

    private static void bookMost() {
        Due.about("26", "An entry behind THE BOOK: how many. UNKNOWN, FULL (20).");
        BlameTown t = of(A + "m0 0 1aaaaaa;m0 0 1aaaaaa;" + X);
        t.blame(0, 0);
        for (int k = 1; k <= 19; k++) {
            Due.is("entry " + k, t.write(0, 0), k);
        }
        Due.is("nothing WRONG", t.judge(), NONE);
        Due.is("entry 20", t.write(0, 0), 20);
        Due.is("entry 21", t.write(1, 0), FULL);
        Due.is("20", t.told(10), 20);
        Due.is("what was refused is not in it", t.judge(), NONE);
        t.tear();
        Due.is("one again", t.write(1, 0), 1);
    }

    private static void writeBounds() {
        Due.about("26", "THE BOOK (20 at most) tells who is BLAMED for MISHAPS:");
        BlameTown t = of(A + times(M, 7) + times(X, 4));
        Due.is("the first, BLAMED or not", t.write(0, 0), 1);
        Due.is("the last", t.write(6, 3), 2);
        Due.is("the same again", t.write(6, 3), 3);
        Due.is("no MAN", t.write(7, 3), UNKNOWN);
        Due.is("no MAN below", t.write(-1, 3), UNKNOWN);
        Due.is("no MISHAP", t.write(6, 4), UNKNOWN);
        Due.is("no MISHAP below", t.write(6, -1), UNKNOWN);
        Due.is("three", t.told(10), 3);
        Due.is("no TOWN", new BlameTown().write(0, 0), UNKNOWN);
    }

    private static void wrongFirst() {
        Due.about("27", "WRONG: the first entry by which one is, who is not now; NONE.");
        BlameTown t = of(A + "m0 0 1aaaaaa;m0 0 1aaaaaa;x0 0 0 0 1 9;x0 0 0 0 1 9;");
        Due.is("no BOOK", t.judge(), NONE);
        t.blame(0, 0);
        Due.is("no BOOK, though one is BLAMED", t.judge(), NONE);
        t.write(1, 0);
        Due.is("the first", t.judge(), 0);
        t.tear();
        for (int k = 0; k < 19; k++) {
            t.write(0, 0);
        }
        Due.is("none of 19", t.judge(), NONE);
        t.write(0, 1);
        Due.is("the last of 20: another MISHAP", t.judge(), 19);
        t.blame(0, 1);
        Due.is("now he is", t.judge(), NONE);
        t.clear(0, 0);
        Due.is("the first of 19", t.judge(), 0);
    }

    private static void wrongNow() {
        Due.about("27", "who is not now;");
        BlameTown t = of("a1 1;m0 0 1aaaaaa;" + X);
        t.write(0, 0);
        Due.is("not yet", t.judge(), 0);
        t.blame(0, 0);
        Due.is("now", t.judge(), NONE);
        t.walk(0, 0, 5);
        Due.is("away, but BLAMED", t.judge(), NONE);
        t.sunset();
        Due.is("no more", t.judge(), 0);
        t.undo(1);
        Due.is("UNDONE", t.judge(), NONE);
        t.keep(0);
        t.clear(0, 0);
        Due.is("CLEARED", t.judge(), 0);
        t.goBack(0);
        Due.is("back", t.judge(), NONE);
    }

    private static void tear() {
        Due.about("28", "Nothing SEEN, no BOOK: how much both had.");
        BlameTown t = of(A + M + X);
        Due.is("both empty", t.tear(), 0);
        t.see(0, 0, 5);
        Due.is("SEEN alone", t.tear(), 1);
        t.write(0, 0);
        Due.is("THE BOOK alone", t.tear(), 1);
        Due.is("no TOWN", new BlameTown().tear(), 0);
    }

    private static void tearMost() {
        Due.about("28", "how much both had.");
        BlameTown t = of(A + M + X);
        for (int k = 0; k < 21; k++) {
            t.see(0, 0, 5);
            t.write(0, 0);
        }
        Due.is("an ALIBI", t.alibi(0), 1);
        Due.is("6 and 20", t.tear(), 26);
        Due.is("nothing SEEN", t.told(9), 0);
        Due.is("no BOOK", t.told(10), 0);
        Due.is("no ALIBI", t.alibi(0), 0);
        Due.is("nothing WRONG", t.judge(), NONE);
        Due.is("nothing again", t.tear(), 0);
        Due.is("SEEN from the front", t.see(0, 0, 0), 1);
        Due.is("the old one is gone", t.alibi(0), 0);
        Due.is("THE BOOK from the front", t.write(0, 0), 1);
    }

    private static void seedBounds() {
        Due.about("29", "THE SEED becomes v (0 .. 2147483647): what it was. OUTSIDE.");
        BlameTown t = new BlameTown();
        t.seed(5);
        Due.is("below", t.seed(-1), OUTSIDE);
        Due.is("far below", t.seed(Integer.MIN_VALUE), OUTSIDE);
        Due.is("it stays", t.seed(0), 5);
        Due.is("the least", t.seed(1), 0);
        Due.is("one", t.seed(2147483647), 1);
        Due.is("the greatest", t.seed(2147483646), 2147483647);
        Due.is("one less", t.seed(0), 2147483646);
    }

    private static void seedAtFirst() {
        Due.about("29", "THE SEED (0 at first:");
        Due.is("without a TOWN", new BlameTown().seed(1), 0);
        Due.is("with a TOWN", of(A).seed(1), 0);
    }

    private static void keepBounds() {
        Due.about("30", "`int keep(int i)`: IMAGE i becomes what is so (nothing can be undone then): 1. UNKNOWN.");
        BlameTown t = Twins.plain();
        t.sunset();
        for (int i : new int[] {-1, 2, 32, 256, Integer.MIN_VALUE, Integer.MAX_VALUE}) {
            Due.is("IMAGE " + i, t.keep(i), UNKNOWN);
        }
        Due.is("what is refused leaves what can be undone", t.told(11), 1);
        Due.is("nor keeps anything", t.goBack(0), NOT);
        Due.is("nor keeps anything", t.goBack(1), NOT);
        Due.is("IMAGE 0", t.keep(0), 1);
        Due.is("IMAGE 1", t.keep(1), 1);
        Due.is("again", t.keep(0), 1);
        Due.is("back", t.goBack(0), 1);
        Due.is("as it is", t.told(6), 1);
    }

    private static void keepUndone() {
        Due.about("30", "becomes what is so (nothing can be undone then)");
        BlameTown t = Twins.plain();
        t.sunset();
        t.walk(0, 0, 3);
        t.keep(1);
        Due.is("none", t.told(11), 0);
        Due.is("refused", t.undo(1), NOT);
        Due.is("the DAY stays", t.told(6), 1);
        t.sunset();
        Due.is("one from there", t.undo(1), 1);
        Due.is("no more", t.undo(1), NOT);
    }

    private static void goBackNot() {
        Due.about("31", "UNKNOWN, NOT: it was not kept.");
        BlameTown t = Twins.plain();
        t.sunset();
        Due.is("0 was not", t.goBack(0), NOT);
        Due.is("1 was not", t.goBack(1), NOT);
        t.keep(1);
        t.sunset();
        Due.is("0 was not still", t.goBack(0), NOT);
        Due.is("one can be undone", t.told(11), 1);
        Due.is("1 was", t.goBack(1), 1);
        for (int i : new int[] {-1, 2, 33, Integer.MIN_VALUE, Integer.MAX_VALUE}) {
            Due.is("IMAGE " + i, t.goBack(i), UNKNOWN);
        }
        tell(t, A);
        t.town();
        Due.is("gone with the TOWN", t.goBack(1), NOT);
    }

    private static void goBackUndone() {
        Due.about("31", "What is so becomes IMAGE i (nothing can be undone then): 1.");
        BlameTown t = Twins.plain();
        t.keep(0);
        t.sunset();
        t.sunset();
        Due.is("two can be", t.told(11), 2);
        Due.is("back", t.goBack(0), 1);
        Due.is("none can be", t.told(11), 0);
        Due.is("refused", t.undo(1), NOT);
        t.sunset();
        Due.is("back once more", t.goBack(0), 1);
        Due.is("DAY 0", t.told(6), 0);
    }

    private static void imagesKeep() {
        Due.about("30, 31", "IMAGES 0, 1 keep all of section 2, THE SEED.");
        BlameTown t = Twins.plain();
        t.seed(2147483647);
        t.sunset();
        t.blame(0, 0);
        t.sunset();
        t.blame(1, 1);
        t.walk(0, 5, 4);
        t.keep(0);
        t.seed(1);
        t.clear(1, 1);
        t.walk(0, 5, 0);
        t.drift(20);
        t.walk(1, 0, 0);
        t.goBack(0);
        Due.is("DAYS", t.told(6), 2);
        Due.is("SPENT: 300, 5 and 200, 6", t.told(7), 511);
        Due.is("WORN", t.man(0, 3), 1);
        Due.is("WORN", t.man(1, 3), 1);
        Due.is("BLAMED", t.mishap(0, 6), 0);
        Due.is("BLAMED", t.mishap(1, 6), 2);
        Due.is("the WALK", t.man(0, 10), 4);
        Due.is("no later WALK", t.man(1, 5), 1);
        Due.is("THE SEED", t.seed(0), 2147483647);
        t.sunset();
        Due.is("ROWS after SUNSET", t.man(0, 10), 0);
    }

    private static void imagesKeepNoMore() {
        Due.about("30, 31", "keep all of section 2, THE SEED.");
        BlameTown t = Twins.plain();
        t.see(0, 0, 5);
        t.write(0, 0);
        t.keep(0);
        t.see(0, 0, 5);
        t.write(0, 0);
        t.write(0, 0);
        tell(t, "a");
        t.goBack(0);
        Due.is("SEEN is of section 3", t.told(9), 2);
        Due.is("THE BOOK is of section 3", t.told(10), 3);
        Due.is("THE TEXT is of section 1", t.told(5), 1);
        Due.is("the TOWN stays", t.told(3), 2);
    }

    private static void imagesApart() {
        Due.about("30, 31", "IMAGES 0, 1 keep");
        BlameTown t = Twins.plain();
        t.keep(0);
        t.sunset();
        t.keep(1);
        t.sunset();
        t.goBack(0);
        Due.is("IMAGE 0", t.told(6), 0);
        t.goBack(1);
        Due.is("IMAGE 1", t.told(6), 1);
        t.sunset();
        t.sunset();
        t.keep(0);
        t.goBack(1);
        Due.is("IMAGE 1 stays", t.told(6), 1);
        t.goBack(0);
        Due.is("IMAGE 0 anew", t.told(6), 3);
        t.blame(0, 0);
        t.goBack(0);
        Due.is("a deed after it is not in the IMAGE", t.mishap(0, 6), 0);
    }

    private static void imagesWithoutTown() {
        Due.about("30, 31", "What is so becomes IMAGE i");
        BlameTown t = new BlameTown();
        t.seed(8);
        Due.is("kept without a TOWN", t.keep(1), 1);
        t.seed(9);
        Due.is("back without a TOWN", t.goBack(1), 1);
        Due.is("THE SEED", t.seed(0), 8);
        Due.is("no TOWN", t.told(0), 0);
        Due.is("the other was not kept", t.goBack(0), NOT);
    }

    private static void calls512() {
        Due.about("1", "An object is used for at most 512 calls after it has been made;");
        BlameTown t = new BlameTown();
        tell(t, times(" ", 225) + A);
        Due.is("230 letters", t.told(5), 230);
        Due.is("the 232nd call", t.town(), 0);
        for (int k = 0; k < 278; k++) {
            t.sunset();
        }
        Due.is("the 511th call", t.told(6), 278);
        Due.is("the 512th call", t.undo(30), 248);
    }
}
