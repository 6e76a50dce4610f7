import java.util.function.ToIntFunction;

/** The edges of what is TRIED, in section 3 of the document's terms, and of promises 15 to 23. */
public final class TriedEdgesTest extends Towns {
    private static final String A = "a0 1;";
    private static final String M = "m0 0 1------;";
    private static final String X = "x0 0 0 0 1 9;";

    public static void main(String[] args) {
        nothingChanges();
        may();
        mayBounds();
        orphans();
        sharedBounds();
        sharedNobody();
        sharedWears();
        sharedOnTop();
        sharedWornMost();
        sharedFar();
        sharedLeast();
        sharedNobodyFirst();
        sharedFirstOfLike();
        sharedWhoever();
        cheapestLeast();
        cheapestNone();
        cheapestBounds();
        culprits();
        culpritsBounds();
        idle();
        nearerHowMany();
        nearerNone();
        nearerBelief();
        nearerBounds();
        chain();
        root();
        whole();
        chainBounds();
        quietBounds();
        quietOutside();
        quietCut();
        cutTowardsNought();
        quietEach();
        quietWraps();
        Due.end();
    }

    private static void nothingChanges() {
        Due.about("15, 16, 17, 18, 19, 20, 21, 22, 23", "TRIED from now; nothing changes by it.");
        tried("may", t -> t.may(1));
        tried("may of a full one", t -> t.may(0));
        tried("orphans", t -> t.orphans());
        tried("shared", t -> t.shared(NONE));
        tried("shared of one", t -> t.shared(1));
        tried("cheapest", t -> t.cheapest(1));
        tried("culprits", t -> t.culprits(0));
        tried("idle", t -> t.idle());
        tried("nearer", t -> t.nearer(0, 1, 0));
        tried("nearer where", t -> t.nearer(1, 1, 1));
        tried("chain", t -> t.chain(1, 0));
        tried("root", t -> t.chain(1, 1));
        tried("whole", t -> t.chain(1, 2));
        tried("quiet", t -> t.quiet(60, 3));
    }

    private static void tried(String what, ToIntFunction<BlameTown> call) {
        Twins.unchanged(what, Twins::rich, call);
    }

    private static void may() {
        Due.about("15", "MAY of a MISHAP: MEN who could be BLAMED for it now (a SET; nobody, if it is full).");
        BlameTown t = of("a0 1;" + times("m0 0 1aaaaaa;", 7) + "x0 0 0 0 2 9;x0 0 0 0 1 9;x1 0 0 0 1 9;x3 0 0 0 1 9;");
        Due.is("all seven", t.may(0), 127);
        Due.is("beside", t.may(2), 127);
        Due.is("nobody is NEAR", t.may(3), 0);
        t.blame(6, 0);
        Due.is("he is BLAMED for it", t.may(0), 63);
        Due.is("he may for another", t.may(1), 127);
        Due.is("he may not for one that is FAR", t.may(2), 63);
        t.blame(0, 0);
        Due.is("full", t.may(0), 0);
        t.clear(6, 0);
        Due.is("a place is free again", t.may(0), 126);
        Due.is("no MEN", of(A + X).may(0), 0);
    }

    private static void mayBounds() {
        Due.about("15", "`int may(int x)`: MAY. UNKNOWN.");
        BlameTown t = of(A + "m0 0 1aaaaaa;" + times(X, 4));
        Due.is("the first", t.may(0), 1);
        Due.is("the last", t.may(3), 1);
        Due.is("above", t.may(4), UNKNOWN);
        Due.is("below", t.may(-1), UNKNOWN);
        Due.is("32 on", t.may(32), UNKNOWN);
        Due.is("far below", t.may(Integer.MIN_VALUE), UNKNOWN);
        Due.is("far above", t.may(Integer.MAX_VALUE), UNKNOWN);
        Due.is("no TOWN", new BlameTown().may(0), UNKNOWN);
    }

    private static void orphans() {
        Due.about("16", "ORPHANS: MISHAPS with a place free for which nobody MAY (a SET of MISHAPS).");
        Due.is("no TOWN", new BlameTown().orphans(), 0);
        Due.is("no MISHAPS", of(A + M).orphans(), 0);
        Due.is("no MEN: all", of(A + times(X, 4)).orphans(), 15);
        Due.is("a MAN nowhere: all", of(A + M + times(X, 4)).orphans(), 15);
        BlameTown t = of(A + "m0 1 1aaaaaa;x0 0 0 0 1 9;x0 0 0 0 2 9;x5 0 0 0 1 9;x0 0 1 0 1 9;");
        Due.is("too far, too weak", t.orphans(), 12);
        t.blame(0, 0);
        Due.is("a full one is none", t.orphans(), 12);
        t.blame(0, 1);
        Due.is("one of two places free", t.orphans(), 14);
        t.clear(0, 1);
        Due.is("CLEARED", t.orphans(), 12);
        t.sunset();
        Due.is("the next DAY", t.orphans(), 12);
    }

    private static void sharedBounds() {
        Due.about("17", "SHARED: x = NONE how much, else the SET of a MISHAP. UNKNOWN.");
        BlameTown t = of("a0 9;m0 0 1aaaaaa;m0 0 2aaaaaa;x0 0 0 0 2 9;x0 0 0 0 1 9;x5 0 0 0 1 9;x0 0 1 0 1 9;");
        Due.is("how much", t.shared(-1), 3 + 1 + 9 + 9);
        Due.is("the first", t.shared(0), 3);
        Due.is("the second", t.shared(1), 1);
        Due.is("nobody", t.shared(2), 0);
        Due.is("the last", t.shared(3), 0);
        Due.is("above", t.shared(4), UNKNOWN);
        Due.is("below NONE", t.shared(-2), UNKNOWN);
        Due.is("far below", t.shared(Integer.MIN_VALUE), UNKNOWN);
        Due.is("far above", t.shared(Integer.MAX_VALUE), UNKNOWN);
        BlameTown none = new BlameTown();
        Due.is("no TOWN: nothing", none.shared(NONE), 0);
        Due.is("no TOWN: no MISHAP", none.shared(0), UNKNOWN);
        Due.is("no MISHAPS: nothing", of("a0 9;" + M).shared(NONE), 0);
        Due.is("no MISHAPS: none", of("a0 9;" + M).shared(0), UNKNOWN);
    }

    private static void sharedNobody() {
        Due.about("17", "MISHAP by MISHAP Z MEN, or nobody:");
        BlameTown half = of("a0 500;m0 0 1aaaaaa;x0 0 0 0 2 9;");
        Due.is("one MAN does not do for two", half.shared(NONE), 1000);
        Due.is("nobody then", half.shared(0), 0);
        BlameTown most = of("a0 500;" + times("x0 0 0 0 2 9;", 4));
        Due.is("nobody at all", most.shared(NONE), 4000);
        BlameTown pair = of("a0 500;m0 0 99aaaaaa;m0 0 99aaaaaa;x0 0 0 0 2 9;");
        Due.is("two", pair.shared(NONE), 198);
        Due.is("both", pair.shared(0), 3);
        BlameTown last = of("a0 500;" + times(M, 5) + times("m0 0 1aaaaaa;", 2) + "x0 0 0 0 2 9;");
        Due.is("the last two", last.shared(0), 96);
        BlameTown pairs = of("a0 500;" + times("m0 0 90aaaaaa;", 5) + times("m0 0 2aaaaaa;", 2) + times("x0 0 0 0 2 9;", 2));
        Due.is("the last of 21 pairs", pairs.shared(0), 96);
        Due.is("and again", pairs.shared(1), 96);
        Due.is("both for two", pairs.shared(NONE), 8);
    }

    private static void sharedWears() {
        Due.about("17", "each FITS (WORN by 1 more for each one that he has ahead of it there,");
        for (int jury = 0; jury <= 6; jury++) {
            BlameTown t = of("a" + jury + " 50;m0 1 3aaaaaa;" + times(X, 4));
            // BELIEF 5 for the first, one less for each ahead
            int blames = Math.max(0, Math.min(4, 6 - jury));
            Due.is("believed from " + jury, t.shared(NONE), 3 * blames + 50 * (4 - blames));
            for (int x = 0; x < 4; x++) {
                Due.is("the SET of " + x + " from " + jury, t.shared(x), x >= 4 - blames ? 1 : 0);
            }
        }
        // he is hated for the last one alone: with one ahead he FITS it still, with two he does not
        BlameTown order = of("a2 50;m0 2 3aaaaaa;x0 0 0 0 1 9;x0 0 0 0 1 9;x0 0 0 1 1 9;");
        Due.is("all three: 3, 2, then 5 less 2", order.shared(NONE), 9);
        BlameTown early = of("a2 50;m0 2 3aaaaaa;x0 0 0 1 1 9;x0 0 0 0 1 9;x0 0 0 0 1 9;");
        Due.is("hated for the first: 5, 3 less 1, 3 less 2", early.shared(NONE), 56);
        Due.is("two of three: nobody for the first is first", early.shared(0), 0);
        Due.is("he for the second", early.shared(1), 1);
        Due.is("he for the third", early.shared(2), 1);
    }

    private static void sharedOnTop() {
        Due.about("17", "on top of WORN now less as many as he is BLAMED for now, 0 at least;");
        BlameTown t = of("a1 50;m0 0 3aaaaaa;x0 0 0 0 1 9;x0 0 0 0 1 9;x0 0 0 0 1 9;");
        Due.is("not WORN: 3, 2, 1", t.shared(NONE), 9);
        t.blame(0, 0);
        Due.is("WORN 1, BLAMED for 1", t.shared(NONE), 9);
        t.blame(0, 1);
        t.blame(0, 2);
        Due.is("WORN 3, BLAMED for 3", t.shared(NONE), 9);
        t.sunset();
        Due.is("WORN 3", t.shared(NONE), 150);
        t.sunset();
        Due.is("WORN 2", t.shared(NONE), 103);
        t.blame(0, 2);
        Due.is("WORN 3, BLAMED for 1", t.shared(NONE), 103);
        Due.is("the last, as nobody is first", t.shared(2), 1);
        t.clear(0, 2);
        t.sunset();
        Due.is("WORN 1", t.shared(NONE), 56);
    }

    private static void sharedWornMost() {
        Due.about("17", "0 at least; 9 at most), none has two");
        BlameTown t = of("a0 50;m0 1 3aaaaaa;" + times(X, 4));
        for (int day = 0; day < 2; day++) {
            for (int x = 0; x < 4; x++) {
                t.blame(0, x);
            }
            Due.is("WORN less what he is BLAMED for, DAY " + day, t.shared(NONE), day == 0 ? 12 : 56 + 50);
            t.sunset();
        }
        // WORN 6, the most that comes; each DAY that he is not BLAMED he FITS for one more
        int[] due = {200, 153, 106, 59, 12, 12, 12, 12};
        for (int day = 0; day < due.length; day++) {
            Due.is("DAY " + day, t.shared(NONE), due[day]);
            t.sunset();
        }
    }

    private static void sharedFar() {
        Due.about("17", "none has two that are FAR:");
        BlameTown same = of("a0 50;m0 0 3aaaaaa;x0 0 0 0 1 9;x0 0 0 0 1 9;");
        Due.is("at the same PLACE and HOUR", same.shared(NONE), 6);
        BlameTown even = of("a0 50;m0 0 3aaaaaa;x0 0 0 0 1 9;x1 1 0 0 1 9;");
        Due.is("one PLACE in one HOUR", even.shared(NONE), 6);
        BlameTown beside = of("a0 50;m0 0 3aaaaaa;x0 0 0 0 1 9;x1 0 0 0 1 9;");
        Due.is("one PLACE in no HOUR", beside.shared(NONE), 53);
        Due.is("nobody first", beside.shared(0), 0);
        BlameTown apart = of("a0 50;m0 0 3bbbbbb;x0 0 0 0 1 9;x0 1 0 0 1 9;x2 1 0 0 1 9;");
        Due.is("not the next one, but one ahead of it", apart.shared(NONE), 56);
        Due.is("the first two, or the last: more are cheaper", apart.shared(0) + 2 * apart.shared(1) + 4 * apart.shared(2), 3);
    }

    private static void sharedLeast() {
        Due.about("17", "RATES of all, and C for each place of those with nobody, together least;");
        BlameTown dearer = of("a0 4;m0 0 5aaaaaa;" + X);
        Due.is("THE MAYOR pays less", dearer.shared(NONE), 4);
        Due.is("nobody", dearer.shared(0), 0);
        BlameTown cheaper = of("a0 6;m0 0 5aaaaaa;" + X);
        Due.is("a RATE is less", cheaper.shared(NONE), 5);
        Due.is("he", cheaper.shared(0), 1);
        BlameTown two = of("a0 6;m0 0 10aaaaaa;m0 0 1aaaaaa;x0 0 0 0 2 9;");
        Due.is("both are less than C for each of two places", two.shared(NONE), 11);
        // the cheap MAN is better kept for the second, for which nobody else FITS
        BlameTown kept = of("a3 50;m0 0 1aaaaaa;m0 0 2aaaaaa;x0 0 0 0 1 9;x0 0 0 0 1 9;");
        Due.is("one each", kept.shared(NONE), 3);
        Due.is("the least SET first", kept.shared(0), 1);
        BlameTown saved = of("a3 50;m1 0 1aaaaaa;m0 0 2aaaaaa;x0 0 0 0 1 9;x0 0 1 0 1 9;");
        Due.is("the strong one is saved", saved.shared(0), 2);
        Due.is("for what he alone CAN", saved.shared(1), 1);
    }

    private static void sharedNobodyFirst() {
        Due.about("17", "nobody, 0, first)");
        BlameTown t = of("a0 5;m0 0 5aaaaaa;" + X);
        Due.is("as dear as THE MAYOR", t.shared(NONE), 5);
        Due.is("nobody", t.shared(0), 0);
        BlameTown two = of("a0 5;m0 0 3aaaaaa;m0 0 7aaaaaa;x0 0 0 0 2 9;");
        Due.is("two as dear as two places", two.shared(NONE), 10);
        Due.is("nobody", two.shared(0), 0);
        BlameTown later = of("a3 50;m0 0 5aaaaaa;" + times(X, 4));
        Due.is("he FITS once", later.shared(NONE), 155);
        Due.is("for the last: nobody ahead", later.shared(3), 1);
        Due.is("nobody ahead", later.shared(0) + later.shared(1) + later.shared(2), 0);
    }

    private static void sharedFirstOfLike() {
        Due.about("17", "of like ones the first (MISHAP by MISHAP the least SET of MEN;");
        BlameTown t = of("a0 50;" + times("m0 0 5aaaaaa;", 7) + "x0 0 0 0 2 9;x0 0 0 0 2 9;");
        Due.is("the least pair", t.shared(0), 3);
        Due.is("the least pair again", t.shared(1), 3);
        BlameTown worn = of("a3 50;" + times("m0 0 5aaaaaa;", 7) + times(X, 4));
        for (int x = 0; x < 4; x++) {
            Due.is("each MAN once, " + x, worn.shared(x), 1 << x);
        }
        // 1 and 9, or 5 and 5: the SET 3 is less than 5 and 6
        BlameTown sums = of("a0 50;m0 0 9aaaaaa;m0 0 1aaaaaa;m0 0 1aaaaaa;m0 0 1aaaaaa;x0 0 0 0 2 9;");
        Due.is("the least of the cheap pairs", sums.shared(0), 6);
        // man 2 is the cheapest; the SET of the first MISHAP decides ahead of that of the second
        BlameTown ahead = of("a3 50;m0 0 5aaaaaa;m0 0 5aaaaaa;m0 0 2aaaaaa;x0 0 0 0 1 9;x0 0 0 0 1 9;");
        Due.is("7 in all", ahead.shared(NONE), 7);
        Due.is("the first one's SET", ahead.shared(0), 1);
        Due.is("the second one's SET", ahead.shared(1), 4);
    }

    private static void sharedWhoever() {
        Due.about("17", "SHARED: for all MISHAPS, whoever is BLAMED now,");
        BlameTown t = of("a0 50;m0 0 5aaaaaa;m0 0 4aaaaaa;x0 0 0 0 1 9;x1 0 0 0 1 9;");
        t.blame(0, 0);
        Due.is("the full one is shared out anew", t.shared(0), 1);
        Due.is("and the one FAR from it", t.shared(NONE), 9);
        t.blame(1, 1);
        Due.is("both full", t.shared(NONE), 9);
        t.clear(0, 0);
        t.clear(1, 1);
        t.walk(0, 0, 5);
        Due.is("where he WALKS counts", t.shared(NONE), 54);
        Due.is("the other for the last", t.shared(1), 2);
    }

    private static void cheapestLeast() {
        Due.about("18", "CHEAPEST for a MISHAP: of MEN who MAY as many as it has places free, of least RATES together; "
                + "of like ones the least SET: the SET;");
        BlameTown t = of("a0 1;m0 0 9aaaaaa;m0 0 3aaaaaa;" + times(M, 4) + "m0 0 3aaaaaa;x0 0 0 0 1 9;x0 0 0 0 2 9;");
        Due.is("one, of two like ones", t.cheapest(0), 2);
        Due.is("two", t.cheapest(1), 2 + 64);
        t.blame(1, 1);
        Due.is("one place is left", t.cheapest(1), 64);
        t.walk(6, 0, 5);
        Due.is("he WALKED off", t.cheapest(1), 1);
        BlameTown ties = of("a0 1;" + times("m0 0 4aaaaaa;", 7) + "x0 0 0 0 2 9;");
        Due.is("of 21 like pairs", ties.cheapest(0), 3);
        BlameTown dear = of("a0 1;" + times(M, 5) + "m0 0 99aaaaaa;m0 0 99aaaaaa;x0 0 0 0 2 9;");
        Due.is("dearer than THE MAYOR", dear.cheapest(0), 96);
        BlameTown sums = of("a0 1;m0 0 9aaaaaa;m0 0 2aaaaaa;m0 0 1aaaaaa;m0 0 1aaaaaa;x0 0 0 0 2 9;");
        Due.is("a greater SET that is cheaper", sums.cheapest(0), 12);
    }

    private static void cheapestNone() {
        Due.about("18", "NONE: too few, it is full.");
        BlameTown t = of("a0 1;m0 0 1aaaaaa;m0 0 2cccccc;x0 0 0 0 2 9;x0 0 0 0 1 9;x5 0 0 0 1 9;x2 0 0 0 1 9;");
        Due.is("one for two places", t.cheapest(0), NONE);
        Due.is("one for one", t.cheapest(1), 1);
        Due.is("nobody for one", t.cheapest(2), NONE);
        t.blame(0, 1);
        Due.is("full", t.cheapest(1), NONE);
        t.walk(1, 0, 1);
        Due.is("two for two places", t.cheapest(0), 3);
        t.blame(0, 0);
        t.blame(1, 0);
        Due.is("full by two", t.cheapest(0), NONE);
        Due.is("no MEN", of(A + X).cheapest(0), NONE);
        Due.is("above", t.cheapest(4), UNKNOWN);
        Due.is("below", t.cheapest(-1), UNKNOWN);
        Due.is("the last", t.cheapest(3), NONE);
    }

    private static void cheapestBounds() {
        Due.about("18", "CHEAPEST; NONE. UNKNOWN.");
        BlameTown t = of("a0 1;" + times(M, 6) + "m0 0 1aaaaaa;" + times(X, 4));
        Due.is("the first", t.cheapest(0), 64);
        Due.is("the last", t.cheapest(3), 64);
        for (int x : new int[] {-1, 4, 31, 32, Integer.MIN_VALUE, Integer.MAX_VALUE}) {
            Due.is("MISHAP " + x, t.cheapest(x), UNKNOWN);
        }
        Due.is("no TOWN", new BlameTown().cheapest(0), UNKNOWN);
    }

    private static void culpritsBounds() {
        Due.about("19", "`int culprits(int x)`: CULPRITS. UNKNOWN.");
        BlameTown t = of("a0 1;" + times(M, 6) + "m0 0 1aaaaaa;" + times(X, 4));
        Due.is("the first", t.culprits(0), 64);
        Due.is("the last", t.culprits(3), 64);
        for (int x : new int[] {-1, 4, 31, 32, Integer.MIN_VALUE, Integer.MAX_VALUE}) {
            Due.is("MISHAP " + x, t.culprits(x), UNKNOWN);
        }
        Due.is("no TOWN", new BlameTown().culprits(0), UNKNOWN);
    }

    private static void culprits() {
        Due.about("19", "CULPRITS of a MISHAP: MEN who CAN and are THERE at its HOUR, whatever the jury thinks (a SET).");
        BlameTown t = of("a6 1;" + times("m1 0 1aaaaaa;", 3) + "m0 0 1aaaaaa;m1 0 1bbbbbb;m1 0 1-aaaaa;m3 0 1abbbbb;"
                + "x0 0 1 0 1 9;x0 1 0 0 1 9;x5 0 0 0 1 9;x1 5 3 0 1 9;");
        Due.is("THERE and CAN, nobody is believed", t.culprits(0), 7 + 64);
        Due.is("at its HOUR", t.culprits(1), 7 + 8 + 32);
        Due.is("nobody is THERE", t.culprits(2), 0);
        Due.is("all POWERS", t.culprits(3), 64);
        t.walk(5, 0, 0);
        Due.is("he WALKS there", t.culprits(0), 7 + 32 + 64);
        Due.is("above", t.culprits(4), UNKNOWN);
        Due.is("below", t.culprits(-1), UNKNOWN);
        Due.is("no MEN", of(A + X).culprits(0), 0);
        BlameTown full = of("a0 1;m0 0 1aaaaaa;m0 0 1aaaaaa;" + X);
        full.blame(0, 0);
        Due.is("full, and BLAMED", full.culprits(0), 3);
    }

    private static void idle() {
        Due.about("20", "IDLE: MEN who are BLAMED for nothing (a SET).");
        Due.is("no TOWN", new BlameTown().idle(), 0);
        Due.is("no MEN", of(A + X).idle(), 0);
        BlameTown t = of("a0 1;" + times("m0 0 1aaaaaa;", 7) + times("x0 0 0 0 2 9;", 4));
        int idle = 127;
        Due.is("all seven", t.idle(), idle);
        for (int m = 6; m >= 0; m--) {
            t.blame(m, m / 2);
            idle -= 1 << m;
            Due.is("not " + m, t.idle(), idle);
        }
        t.blame(0, 1);
        t.blame(0, 3);
        t.clear(0, 0);
        Due.is("for one of two still", t.idle(), 0);
        t.clear(0, 3);
        Due.is("none of them", t.idle(), 1);
        t.sunset();
        Due.is("all after SUNSET", t.idle(), 127);
    }

    private static void nearerHowMany() {
        Due.about("21", "0 he does (where: his PLACE then); the least; of like ones the lesser PLACE: how many; where;");
        for (int jury : new int[] {0, 1, 2, 3, 4}) {
            for (int place = 0; place < 6; place++) {
                for (int at = 0; at < 6; at++) {
                    String row = times("" + (char) ('a' + at), 6);
                    BlameTown t = of("a" + jury + " 1;m0 0 1" + row + ";x" + place + " 3 0 0 1 9;");
                    int reach = jury <= 1 ? 1 : 0;
                    int apart = Math.abs(place - at);
                    int steps = jury > 3 ? NONE : Math.max(0, apart - reach);
                    int where = jury > 3 ? NONE : at + Integer.signum(place - at) * steps;
                    Due.is("how many from " + at + " to " + place + " by " + jury, t.nearer(0, 0, 0), steps);
                    Due.is("where from " + at + " to " + place + " by " + jury, t.nearer(0, 0, 1), where);
                }
            }
        }
    }

    private static void nearerNone() {
        Due.about("21", "NONE: he CANNOT, is nowhere then, FITS nowhere.");
        BlameTown t = of("a0 1;m14 63 1aaaaaa;m15 63 1-aaaaa;m15 63 1a-----;x0 0 1 0 1 9;x0 1 1 0 1 9;");
        for (int what = 0; what <= 1; what++) {
            Due.is("CANNOT, though THERE", t.nearer(0, 0, what), NONE);
            Due.is("nowhere then", t.nearer(1, 0, what), NONE);
            Due.is("somewhere at that HOUR", t.nearer(1, 1, what), 0);
            Due.is("somewhere at that HOUR", t.nearer(2, 0, what), 0);
            Due.is("nowhere at that HOUR", t.nearer(2, 1, what), NONE);
        }
        BlameTown six = of("a6 1;m15 63 1aaaaaa;" + X);
        Due.is("FITS nowhere", six.nearer(0, 0, 0), NONE);
        Due.is("FITS nowhere", six.nearer(0, 0, 1), NONE);
        BlameTown five = of("a5 1;m15 63 1bbbbbb;" + X);
        Due.is("FITS THERE", five.nearer(0, 0, 0), 1);
        Due.is("where: PLACE 0", five.nearer(0, 0, 1), 0);
    }

    private static void nearerBelief() {
        Due.about("21", "by how many PLACES he must be elsewhere at its HOUR to FIT (BELIEF as he is there then):");
        BlameTown t = of("a3 1;m0 1 1ffffff;m0 0 1ffffff;x0 0 0 0 1 9;x0 0 0 1 1 9;x5 0 0 0 1 9;");
        Due.is("HATES: beside is enough", t.nearer(0, 0, 0), 4);
        Due.is("where", t.nearer(0, 0, 1), 1);
        Due.is("HATES not: THERE", t.nearer(0, 1, 0), 5);
        Due.is("where", t.nearer(0, 1, 1), 0);
        Due.is("he is THERE", t.nearer(0, 2, 0), 0);
        t.blame(0, 2);
        Due.is("WORN: THERE alone", t.nearer(0, 0, 0), 5);
        Due.is("WORN: nowhere", t.nearer(0, 1, 0), NONE);
        Due.is("BLAMED for it, full, FAR: FITS all the same", t.nearer(0, 2, 0), 0);
        t.walk(0, 0, 2);
        Due.is("from where he WALKED to", t.nearer(0, 0, 0), 2);
        BlameTown ends = of("a0 1;m0 0 1ffffff;m0 0 1aaaaaa;x5 0 0 0 1 9;x0 0 0 0 1 9;");
        Due.is("PLACE 5 has none above", ends.nearer(0, 0, 1), 5);
        Due.is("PLACE 0 has none below", ends.nearer(1, 1, 1), 0);
    }

    private static void nearerBounds() {
        Due.about("21", "NEARER: what = 0 how many, 1 where; NONE. UNKNOWN, OUTSIDE.");
        BlameTown t = of("a0 1;" + M + "m0 0 1dddddd;" + X + X);
        Due.is("0", t.nearer(1, 1, 0), 2);
        Due.is("1", t.nearer(1, 1, 1), 1);
        Due.is("below", t.nearer(1, 1, -1), OUTSIDE);
        Due.is("above", t.nearer(1, 1, 2), OUTSIDE);
        Due.is("NONE, but OUTSIDE", t.nearer(0, 0, 2), OUTSIDE);
        Due.is("no MAN", t.nearer(2, 1, 0), UNKNOWN);
        Due.is("no MAN below", t.nearer(-1, 1, 0), UNKNOWN);
        Due.is("no MISHAP", t.nearer(1, 2, 0), UNKNOWN);
        Due.is("no MISHAP below", t.nearer(1, -1, 0), UNKNOWN);
    }

    private static void chain() {
        Due.about("22", "CHAIN of a MISHAP: how many MISHAPS it comes from, one from another;");
        BlameTown line = of(A + X + "x0 0 0 0 1 0;x0 0 0 0 1 1;x0 0 0 0 1 2;");
        BlameTown star = of(A + X + "x0 0 0 0 1 0;x0 0 0 0 1 0;x0 0 0 0 1 0;");
        BlameTown alone = of(A + times(X, 4));
        for (int x = 0; x < 4; x++) {
            Due.is("in a line " + x, line.chain(x, 0), x);
            Due.is("in a star " + x, star.chain(x, 0), x == 0 ? 0 : 1);
            Due.is("alone " + x, alone.chain(x, 0), 0);
        }
    }

    private static void root() {
        Due.about("22", "ROOT: the first of these (itself, if from none).");
        BlameTown line = of(A + X + "x0 0 0 0 1 0;x0 0 0 0 1 1;x0 0 0 0 1 2;");
        BlameTown pairs = of(A + X + X + "x0 0 0 0 1 1;x0 0 0 0 1 0;");
        BlameTown alone = of(A + times(X, 4));
        for (int x = 0; x < 4; x++) {
            Due.is("in a line " + x, line.chain(x, 1), 0);
            Due.is("alone " + x, alone.chain(x, 1), x);
            Due.is("in pairs " + x, pairs.chain(x, 1), x == 0 || x == 3 ? 0 : 1);
        }
    }

    private static void whole() {
        Due.about("22", "WHOLE: MISHAPS of like ROOT (a SET of MISHAPS).");
        BlameTown line = of(A + X + "x0 0 0 0 1 0;x0 0 0 0 1 1;x0 0 0 0 1 2;");
        BlameTown pairs = of(A + X + X + "x0 0 0 0 1 1;x0 0 0 0 1 0;");
        BlameTown alone = of(A + times(X, 4));
        for (int x = 0; x < 4; x++) {
            Due.is("in a line " + x, line.chain(x, 2), 15);
            Due.is("alone " + x, alone.chain(x, 2), 1 << x);
            Due.is("in pairs " + x, pairs.chain(x, 2), x == 0 || x == 3 ? 9 : 6);
        }
    }

    private static void chainBounds() {
        Due.about("22", "What = 0 CHAIN, 1 ROOT, 2 WHOLE. UNKNOWN, OUTSIDE.");
        BlameTown t = of(A + X + X);
        Due.is("the last", t.chain(1, 2), 2);
        Due.is("what below", t.chain(1, -1), OUTSIDE);
        Due.is("what above", t.chain(1, 3), OUTSIDE);
        Due.is("no MISHAP", t.chain(2, 0), UNKNOWN);
        Due.is("no MISHAP below", t.chain(-1, 0), UNKNOWN);
        Due.is("no TOWN", new BlameTown().chain(0, 0), UNKNOWN);
    }

    private static void quietBounds() {
        Due.about("23", "QUIET: odds that in n DAYS (0 .. 60) there is no MISHAP, each MISHAP by q of a hundred a DAY, by itself:");
        BlameTown t = of(A + X);
        Due.is("no DAY", t.quiet(0, 100), 1000000000);
        Due.is("no DAY", t.quiet(0, 0), 1000000000);
        Due.is("one DAY for sure", t.quiet(1, 100), 0);
        Due.is("60 DAYS for sure not", t.quiet(60, 0), 1000000000);
        Due.is("60 DAYS", t.quiet(60, 1) > 0 ? 1 : 0, 1);
        Due.is("DAYS below", t.quiet(-1, 50), OUTSIDE);
        Due.is("DAYS above", t.quiet(61, 50), OUTSIDE);
        Due.is("q below", t.quiet(1, -1), OUTSIDE);
        Due.is("q above", t.quiet(1, 101), OUTSIDE);
        Due.is("q above, no DAY", t.quiet(0, 101), OUTSIDE);
        Due.is("far below", t.quiet(Integer.MIN_VALUE, 1), OUTSIDE);
        Due.is("far above", t.quiet(1, Integer.MAX_VALUE), OUTSIDE);
    }

    private static void quietOutside() {
        Due.about("23", "`int quiet(int n, int q)`: QUIET. OUTSIDE.");
        BlameTown t = of(A + X);
        Due.is("the least of both", t.quiet(0, 0), 1000000000);
        Due.is("the most of both", t.quiet(60, 100), 0);
        Due.is("the most DAYS by one", t.quiet(60, 1), 547156620);
        Due.is("one DAY by the most but one", t.quiet(1, 99), 10000000);
        for (int n : new int[] {-1, 61, 64, Integer.MIN_VALUE, Integer.MAX_VALUE}) {
            Due.is(n + " DAYS", t.quiet(n, 0), OUTSIDE);
        }
        for (int q : new int[] {-1, 101, 128, Integer.MIN_VALUE, Integer.MAX_VALUE}) {
            Due.is("by " + q, t.quiet(60, q), OUTSIDE);
            Due.is("no DAY by " + q, t.quiet(0, q), OUTSIDE);
        }
    }

    private static void cutTowardsNought() {
        Due.about("13, 23", "All numbers are whole; / cuts towards 0.");
        BlameTown t = of("a0 1;m0 0 1aaaaaa;m0 0 1aaaaaa;m0 0 1aaaaaa;" + X);
        Due.is("10 by tenths", t.quiet(9, 90), 1);
        Due.is("1 by tenths", t.quiet(10, 90), 0);
        Due.is("13 halves of a BILLION, 122070.3 cut to 122070", t.quiet(13, 50), 122070);
        // SEED / 65536 is not whole for any of these
        for (int seed : new int[] {0, 1, 5, 40, 1000}) {
            long drawn = (seed * 1103515245L + 12345L) % (1L << 31);
            long whole = (drawn - drawn % 65536) / 65536;
            t.seed(seed);
            t.drift(1);
            Due.is("drawn by " + seed, t.man((int) (whole % 3), 3), 1);
            t.undo(1);
        }
    }

    private static void quietCut() {
        Due.about("23", "a BILLION times (100 less q) / 100 for each and DAY (cut each time).");
        BlameTown t = of(A + X);
        for (int q : new int[] {1, 3, 33, 50, 67, 90, 99}) {
            long odds = 1000000000;
            for (int n = 0; n <= 60; n++) {
                Due.is(n + " DAYS by " + q, t.quiet(n, q), odds);
                odds = (odds * (100 - q) - odds * (100 - q) % 100) / 100;
            }
        }
        Due.is("29 halves: 1", t.quiet(29, 50), 1);
        Due.is("30 halves: 0", t.quiet(30, 50), 0);
    }

    private static void quietEach() {
        Due.about("23", "for each and DAY");
        for (int mishaps = 0; mishaps <= 4; mishaps++) {
            BlameTown t = of(A + times("x0 0 0 0 2 9;", mishaps));
            Due.is("one DAY of " + mishaps, t.quiet(1, 50), 1000000000 >> mishaps);
            Due.is("two DAYS of " + mishaps, t.quiet(2, 50), 1000000000 >> 2 * mishaps);
            Due.is("60 DAYS of " + mishaps + " for sure", t.quiet(60, 100), mishaps == 0 ? 1000000000 : 0);
        }
        Due.is("no TOWN", new BlameTown().quiet(60, 100), 1000000000);
        Due.is("no TOWN, OUTSIDE", new BlameTown().quiet(61, 100), OUTSIDE);
    }

    private static void quietWraps() {
        Due.about("23", "BILLION is 1000000000.");
        BlameTown t = of(A + X);
        for (int q = 0; q <= 100; q++) {
            Due.is("one DAY by " + q, t.quiet(1, q), 10000000L * (100 - q));
        }
    }
}
