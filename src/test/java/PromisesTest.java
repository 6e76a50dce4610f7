/** Each promise of the document, by hand: ordinary inputs, the edges that it names, wrong inputs. */
public final class PromisesTest extends Towns {
    /** Three men; x0 and x2 are at one PLACE and HOUR, x1 is FAR from both; x2 comes from x0. */
    private static final String THREE = "a1 100;m1 0 5aaaaaa;m1 0 5bbbbbb;m1 1 9aabbcc;"
            + "x0 1 1 0 1 9;x2 1 1 1 1 9;x0 1 1 1 2 0;";
    private static final String ONE = "a0 7;m15 0 3aaaaaa;x0 0 0 0 1 9;";

    public static void main(String[] args) {
        newObject();
        feed();
        townsThatStand();
        townsWithFaults();
        townBeginsAnew();
        faultyTownChangesNothing();
        told();
        man();
        mishap();
        belief();
        blame();
        blameFar();
        clear();
        walk();
        sunset();
        sunsetLimit();
        drift();
        driftTakesTurns();
        undo();
        undoDays();
        may();
        orphans();
        shared();
        sharedWears();
        sharedTies();
        cheapest();
        culprits();
        idle();
        nearer();
        chain();
        quiet();
        see();
        alibi();
        write();
        judge();
        tear();
        seed();
        images();
        Due.end();
    }

    // 1
    private static void newObject() {
        BlameTown t = new BlameTown();
        for (int what = 0; what < 12; what++) {
            Due.is("1 told " + what, t.told(what), 0);
        }
        Due.is("1 fault", t.fault(), NONE);
        Due.is("1 man", t.man(0, 0), UNKNOWN);
        Due.is("1 mishap", t.mishap(0, 0), UNKNOWN);
        Due.is("1 sunset", t.sunset(), NOT);
        Due.is("1 drift", t.drift(1), NOT);
        Due.is("1 undo", t.undo(1), NOT);
        Due.is("1 orphans", t.orphans(), 0);
        Due.is("1 idle", t.idle(), 0);
        Due.is("1 shared", t.shared(NONE), 0);
        Due.is("1 shared 0", t.shared(0), UNKNOWN);
        Due.is("1 judge", t.judge(), NONE);
        Due.is("1 tear", t.tear(), 0);
        Due.is("1 quiet", t.quiet(60, 100), 1000000000);
        Due.is("1 seed", t.seed(5), 0);
        Due.is("1 goBack", t.goBack(0), NOT);
        Due.is("1 keep", t.keep(0), 1);
    }

    // 2
    private static void feed() {
        BlameTown t = new BlameTown();
        Due.is("2 least letter", t.feed(0), 1);
        Due.is("2 greatest letter", t.feed(255), 2);
        Due.is("2 below", t.feed(-1), OUTSIDE);
        Due.is("2 above", t.feed(256), OUTSIDE);
        Due.is("2 far above", t.feed(Integer.MAX_VALUE), OUTSIDE);
        for (int k = 3; k <= 230; k++) {
            Due.is("2 letter " + k, t.feed(' '), k);
        }
        Due.is("2 full", t.feed(' '), FULL);
        Due.is("2 outside goes ahead", t.feed(256), OUTSIDE);
        Due.is("2 told", t.told(5), 230);
        Due.is("2 a letter that is none", t.town(), -11);
        Due.is("2 at", t.fault(), 0);
        Due.is("2 anew", t.feed('a'), 1);
    }

    // 3
    private static void townsThatStand() {
        stands("", 0, 0);
        stands("   ", 0, 0);
        stands("a0 1;", 0, 0);
        stands("a6 500;", 0, 0);
        stands("a006 001;", 0, 0);
        stands("  a  6   500  ;  ", 0, 0);
        stands("a0 1;m0 0 1------;", 1, 0);
        stands("a0 1;m 15 63 99 abcdef ;", 1, 0);
        stands("a0 1;" + times("m0 0 1------;", 7), 7, 0);
        stands("a0 1;x5 5 15 5 2 9;", 0, 1);
        stands("a0 1;x0 0 0 0 1 009;m0 0 1------;x0 0 0 0 1 0;", 1, 2);
        stands("a0 1;x0 0 0 0 1 9;x0 0 0 0 1 0;x0 0 0 0 1 1;x0 0 0 0 1 2 ; ", 0, 4);
    }

    // 3, 4
    private static void townsWithFaults() {
        faulty("^b", 1);
        faulty("  ^m0 0 1------;", 1);
        faulty("^x0 0 0 0 1 9;", 1);
        faulty("^;", 1);
        faulty("^A0 1;", 1);
        faulty("^1", 1);
        faulty("a^", 1);
        faulty("a ^", 1);
        faulty("a1^", 1);
        faulty("a1 ^;", 1);
        faulty("a1 1^", 1);
        faulty("a1 1  ^", 1);
        faulty("a1 1 ^1;", 1);
        faulty("a^-1 1;", 1);
        faulty("a^7 1;", 2);
        faulty("a^10", 2);
        faulty("a6 ^501;", 2);
        faulty("a6 ^0;", 2);
        faulty("a^0001 1;", 2);
        faulty("a^99999999999999999999", 2);
        faulty("a^4294967296 1;", 2);
        faulty("a0 ^0001;", 2);
        faulty("a0 1;^;", 1);
        faulty("a0 1;^b", 1);
        faulty("a0 1; ^a0 1;", 3);
        faulty("a0 1;^a", 3);
        faulty("a0 1;m0 0 1------;^a9", 3);
        faulty("a0 1;m^", 1);
        faulty("a0 1;m^16 0 1------;", 2);
        faulty("a0 1;m0 ^64 1------;", 2);
        faulty("a0 1;m0 0 ^0------;", 2);
        faulty("a0 1;m0 0 ^100------;", 2);
        faulty("a0 1;m0 0 ^1000------;", 2);
        faulty("a0 1;m0 0 ^------;", 1);
        faulty("a0 1;m0 0 1-----^;", 1);
        faulty("a0 1;m0 0 1-----^", 1);
        faulty("a0 1;m0 0 1^;", 1);
        faulty("a0 1;m0 0 1abcde^g;", 1);
        faulty("a0 1;m0 0 1^Abcdef;", 1);
        faulty("a0 1;m0 0 1ab^ cdef;", 1);
        faulty("a0 1;m0 0 1abcdef^a;", 1);
        faulty("a0 1;m0 0 1abcdef^", 1);
        faulty("a0 1;" + times("m0 0 1------;", 7) + "^m", 3);
        faulty("a0 1;x^6 0 0 0 1 9;", 2);
        faulty("a0 1;x0 ^6 0 0 1 9;", 2);
        faulty("a0 1;x0 0 ^16 0 1 9;", 2);
        faulty("a0 1;x0 0 0 ^6 1 9;", 2);
        faulty("a0 1;x0 0 0 0 ^0 9;", 2);
        faulty("a0 1;x0 0 0 0 ^3 9;", 2);
        faulty("a0 1;x0 0 0 0 1 ^0;", 2);
        faulty("a0 1;x0 0 0 0 1 ^10;", 2);
        faulty("a0 1;x0 0 0 0 1 ^0009;", 2);
        faulty("a0 1;x0 0 0 0 1 9;x0 0 0 0 1 ^1;", 2);
        faulty("a0 1;x0 0 0 0 1 9;x0 0 0 0 1 ^8;", 2);
        faulty("a0 1;x0 0 0 0 1 9^-;", 1);
        faulty("a0 1;x0 0 0 0 1^;", 1);
        faulty("a0 1;" + times("x0 0 0 0 1 9;", 4) + "^x0", 3);
        faulty("a0 1;m0 0 1" + (char) 233 + "-----;", "a0 1;m0 0 1".length(), 1);
    }

    // 3
    private static void townBeginsAnew() {
        BlameTown t = of(THREE);
        t.blame(0, 0);
        t.walk(1, 0, 4);
        t.sunset();
        t.see(0, 0, 0);
        t.write(0, 0);
        t.keep(0);
        t.keep(1);
        t.seed(77);
        t.blame(0, 0);
        tell(t, THREE);
        Due.is("3 anew", t.town(), 3);
        for (int what = 5; what < 12; what++) {
            Due.is("3 anew, told " + what, t.told(what), what == 8 ? 4 : 0);
        }
        Due.is("3 nobody BLAMED", t.mishap(0, 6), 0);
        Due.is("3 not WORN", t.man(0, 3), 0);
        Due.is("3 no WALK", t.man(1, 5), 1);
        Due.is("3 no IMAGE 0", t.goBack(0), NOT);
        Due.is("3 no IMAGE 1", t.goBack(1), NOT);
        Due.is("3 THE SEED stays", t.seed(0), 77);
        t.keep(0);
        Due.is("3 an empty text", t.town(), 0);
        for (int what = 0; what < 12; what++) {
            Due.is("3 no TOWN any more, told " + what, t.told(what), 0);
        }
        Due.is("3 no IMAGE of it", t.goBack(0), NOT);
        Due.is("3 no MAN", t.man(0, 0), UNKNOWN);
    }

    // 3
    private static void faultyTownChangesNothing() {
        BlameTown t = of(THREE);
        t.blame(0, 0);
        t.keep(1);
        t.blame(1, 1);
        t.see(0, 0, 0);
        t.write(0, 0);
        tell(t, "a3 50;m0 0 1------;x5 5 5 5 2 9;q");
        Due.is("3 faulty", t.town(), -11);
        Due.is("4 faulty", t.fault(), 32);
        int[] due = {1, 1, 100, 3, 3, 0, 0, 10, 2, 1, 1, 1};
        for (int what = 0; what < 12; what++) {
            Due.is("3 after a faulty one, told " + what, t.told(what), due[what]);
        }
        Due.is("3 his POWERS stay", t.man(0, 0), 1);
        Due.is("3 the PLACE stays", t.mishap(0, 0), 0);
        Due.is("3 the IMAGE stays", t.goBack(1), 1);
        Due.is("4 still", t.fault(), 32);
        tell(t, ONE);
        Due.is("3 good again", t.town(), 1);
        Due.is("4 none again", t.fault(), NONE);
    }

    // 5
    private static void told() {
        BlameTown t = of(THREE);
        t.feed('a');
        t.blame(0, 0);
        t.see(1, 0, 0);
        t.see(1, 0, 0);
        t.write(1, 0);
        t.write(1, 0);
        t.write(1, 0);
        int[] due = {1, 1, 100, 3, 3, 1, 0, 5, 3, 2, 3, 1};
        for (int what = 0; what < 12; what++) {
            Due.is("5 told " + what, t.told(what), due[what]);
        }
        t.sunset();
        Due.is("5 DAYS", t.told(6), 1);
        Due.is("5 SPENT", t.told(7), 305);
        Due.is("5 free", t.told(8), 4);
        Due.is("5 SEEN stays at SUNSET", t.told(9), 2);
        Due.is("5 undone", t.told(11), 2);
        Due.is("5 above", t.told(12), OUTSIDE);
        for (int what : WRONG) {
            Due.is("5 told " + what, t.told(what), what == 7 ? 305 : OUTSIDE);
        }
    }

    // 6
    private static void man() {
        BlameTown t = of("a0 1;m13 33 42a-cdef;m0 0 1------;x0 0 0 0 1 9;x0 0 0 0 1 9;");
        int[] due = {13, 33, 42, 0, 0, 0, NONE, 2, 3, 4, 5};
        for (int what = 0; what < 11; what++) {
            Due.is("6 man 0 " + what, t.man(0, what), due[what]);
        }
        Due.is("6 blames", t.blame(0, 1), 42);
        Due.is("6 SET of MISHAPS", t.man(0, 4), 2);
        Due.is("6 WORN", t.man(0, 3), 1);
        Due.is("6 blames", t.blame(0, 0), 42);
        Due.is("6 SET of MISHAPS", t.man(0, 4), 3);
        t.walk(1, 5, 3);
        Due.is("6 where he WALKS", t.man(1, 10), 3);
        Due.is("6 nowhere", t.man(1, 5), NONE);
        Due.is("6 above", t.man(0, 11), OUTSIDE);
        Due.is("6 below", t.man(0, -1), OUTSIDE);
        Due.is("6 no such MAN", t.man(2, 0), UNKNOWN);
        Due.is("6 UNKNOWN goes ahead", t.man(2, 11), UNKNOWN);
        for (int m : WRONG) {
            Due.is("6 man " + m, t.man(m, 0), UNKNOWN);
        }
    }

    // 7
    private static void mishap() {
        BlameTown t = of("a0 1;m15 0 9bbbbbb;m15 0 9bbbbbb;x0 1 2 3 2 9;x5 4 15 5 1 0;");
        int[] due = {0, 1, 2, 3, 2, NONE, 0};
        for (int what = 0; what < 7; what++) {
            Due.is("7 mishap 0 " + what, t.mishap(0, what), due[what]);
        }
        int[] other = {5, 4, 15, 5, 1, 0, 0};
        for (int what = 0; what < 7; what++) {
            Due.is("7 mishap 1 " + what, t.mishap(1, what), other[what]);
        }
        t.blame(1, 0);
        Due.is("7 SET", t.mishap(0, 6), 2);
        t.blame(0, 0);
        Due.is("7 SET of two", t.mishap(0, 6), 3);
        Due.is("7 above", t.mishap(0, 7), OUTSIDE);
        Due.is("7 below", t.mishap(0, -1), OUTSIDE);
        Due.is("7 UNKNOWN goes ahead", t.mishap(2, 7), UNKNOWN);
        for (int x : WRONG) {
            Due.is("7 mishap " + x, t.mishap(x, 0), UNKNOWN);
        }
    }

    // 8
    private static void belief() {
        BlameTown t = of("a6 1;m3 4 1bcadb-;m1 0 1bbbbbb;x1 0 2 2 1 9;x1 1 2 2 1 9;x1 2 3 1 1 9;x1 3 0 2 1 9;");
        Due.is("8 THERE, HATES", t.belief(0, 0), 15);
        Due.is("8 beside, HATES", t.belief(0, 1), 13);
        Due.is("8 beside", t.belief(0, 2), 11);
        Due.is("8 not NEAR", t.belief(0, 3), 0);
        Due.is("8 CANNOT", t.belief(1, 0), 0);
        Due.is("8 needs nothing", t.belief(1, 3), 13);
        Due.is("8 no MAN", t.belief(2, 0), UNKNOWN);
        Due.is("8 no MISHAP", t.belief(0, 4), UNKNOWN);
        for (int wrong : WRONG) {
            Due.is("8 man " + wrong, t.belief(wrong, 0), UNKNOWN);
            Due.is("8 mishap " + wrong, t.belief(0, wrong), UNKNOWN);
        }
        BlameTown worn = of("a0 1;m0 1 1aaaaaa;x0 0 0 0 1 9;x0 0 0 0 1 9;x1 0 0 1 1 9;");
        for (int day = 0; day < 3; day++) {
            worn.blame(0, 0);
            worn.blame(0, 1);
            worn.sunset();
        }
        Due.is("8 WORN 6", worn.man(0, 3), 6);
        Due.is("8 below 0, and 10", worn.belief(0, 0), 9);
        Due.is("8 far below 0, and 10", worn.belief(0, 2), 5);
        BlameTown nowhere = of("a0 1;m0 1 1-aaaaa;x0 0 0 0 1 9;");
        Due.is("8 nowhere", nowhere.belief(0, 0), 0);
    }

    // 9
    private static void blame() {
        BlameTown t = of("a2 9;m1 0 5aaaaaa;m1 1 6bbbbbb;m0 1 7aaaaaa;m1 0 8bbbbbb;x0 0 1 0 2 9;");
        Due.is("9 not believed", t.blame(3, 0), NOT);
        Due.is("9 CANNOT", t.blame(2, 0), NOT);
        Due.is("9 RATE", t.blame(1, 0), 6);
        Due.is("9 again", t.blame(1, 0), NOT);
        Due.is("9 WORN", t.man(1, 3), 1);
        Due.is("9 SPENT", t.told(7), 6);
        Due.is("9 one place left", t.told(8), 1);
        Due.is("9 RATE", t.blame(0, 0), 5);
        Due.is("9 none left", t.told(8), 0);
        Due.is("9 SPENT", t.told(7), 11);
        Due.is("9 two deeds", t.told(11), 2);
        Due.is("9 cleared", t.clear(1, 0), 0);
        Due.is("9 he may again", t.blame(1, 0), 6);
        Due.is("9 SPENT again", t.told(7), 17);
        Due.is("9 no MAN", t.blame(4, 0), UNKNOWN);
        Due.is("9 no MISHAP", t.blame(0, 1), UNKNOWN);
        for (int wrong : WRONG) {
            Due.is("9 man " + wrong, t.blame(wrong, 0), UNKNOWN);
            Due.is("9 mishap " + wrong, t.blame(0, wrong), UNKNOWN);
        }
        BlameTown full = of("a0 9;m1 0 5aaaaaa;m1 0 6aaaaaa;x0 0 1 0 1 9;");
        Due.is("9 first", full.blame(0, 0), 5);
        Due.is("9 full", full.blame(1, 0), NOT);
    }

    // 9
    private static void blameFar() {
        BlameTown t = of("a0 9;m1 0 5aceeee;x0 0 1 0 1 9;x2 1 1 0 1 9;x4 4 1 0 1 9;x4 3 1 0 1 9;");
        Due.is("9 first", t.blame(0, 0), 5);
        Due.is("9 FAR", t.blame(0, 1), NOT);
        Due.is("9 not FAR: as many PLACES as HOURS", t.blame(0, 2), 5);
        Due.is("9 FAR by one", t.blame(0, 3), NOT);
        Due.is("9 given back", t.clear(0, 0), 1);
        Due.is("9 not FAR any more", t.blame(0, 3), 5);
    }

    // 10
    private static void clear() {
        BlameTown t = of(THREE);
        Due.is("10 he was not BLAMED", t.clear(0, 0), NOT);
        t.blame(0, 0);
        t.blame(0, 2);
        Due.is("10 WORN then", t.clear(0, 0), 1);
        Due.is("10 WORN none", t.clear(0, 2), 0);
        Due.is("10 not twice", t.clear(0, 2), NOT);
        Due.is("10 SPENT stays", t.told(7), 10);
        Due.is("10 the place is free", t.mishap(0, 6), 0);
        Due.is("10 no MAN", t.clear(3, 0), UNKNOWN);
        Due.is("10 no MISHAP", t.clear(0, 3), UNKNOWN);
        for (int wrong : WRONG) {
            Due.is("10 man " + wrong, t.clear(wrong, 0), UNKNOWN);
            Due.is("10 mishap " + wrong, t.clear(0, wrong), UNKNOWN);
        }
    }

    // 11
    private static void walk() {
        BlameTown t = of("a0 9;m1 0 5-aaaaa;x5 0 0 0 1 9;");
        Due.is("11 he was nowhere", t.walk(0, 0, 5), NONE);
        Due.is("11 he is", t.man(0, 5), 5);
        Due.is("11 he FITS there", t.blame(0, 0), 5);
        Due.is("11 the same one", t.walk(0, 0, 5), 5);
        Due.is("11 on", t.walk(0, 0, 0), 5);
        Due.is("11 BLAMED stays", t.mishap(0, 6), 1);
        Due.is("11 each WALK is one", t.told(11), 4);
        Due.is("11 other HOURS stay", t.man(0, 6), 0);
        Due.is("11 no MAN", t.walk(1, 0, 0), UNKNOWN);
        Due.is("11 UNKNOWN goes ahead", t.walk(1, 6, 6), UNKNOWN);
        for (int wrong : WRONG) {
            Due.is("11 man " + wrong, t.walk(wrong, 0, 0), UNKNOWN);
            Due.is("11 hour " + wrong, t.walk(0, wrong, 0), OUTSIDE);
            Due.is("11 place " + wrong, t.walk(0, 0, wrong), OUTSIDE);
        }
        Due.is("11 hour 6", t.walk(0, 6, 0), OUTSIDE);
        Due.is("11 place 6", t.walk(0, 0, 6), OUTSIDE);
        Due.is("11 what is refused is no deed", t.told(11), 4);
        t.sunset();
        Due.is("11 over at SUNSET", t.man(0, 5), NONE);
    }

    // 12
    private static void sunset() {
        BlameTown t = of(THREE);
        t.blame(0, 0);
        t.blame(0, 2);
        t.blame(1, 1);
        Due.is("12 one place is free", t.sunset(), 100);
        Due.is("12 SPENT", t.told(7), 115);
        Due.is("12 nobody is BLAMED", t.mishap(0, 6) + t.mishap(1, 6) + t.mishap(2, 6), 0);
        Due.is("12 WORN stays", t.man(0, 3), 2);
        Due.is("12 WORN stays", t.man(1, 3), 1);
        Due.is("12 0 at least", t.man(2, 3), 0);
        Due.is("12 DAYS", t.told(6), 1);
        Due.is("12 all are free", t.sunset(), 400);
        Due.is("12 1 less", t.man(0, 3), 1);
        Due.is("12 1 less", t.man(1, 3), 0);
        t.blame(0, 0);
        t.clear(0, 0);
        Due.is("12 CLEARED", t.man(0, 3), 1);
        t.sunset();
        Due.is("12 CLEARED is not BLAMED", t.man(0, 3), 0);
        BlameTown bare = of("a0 500;");
        Due.is("12 no MISHAPS", bare.sunset(), 0);
        Due.is("12 DAYS all the same", bare.told(6), 1);
    }

    // 12, 13
    private static void sunsetLimit() {
        BlameTown t = of("a0 1;");
        for (int k = 0; k < 450; k++) {
            t.drift(20);
        }
        Due.is("12 DAYS", t.told(6), 9000);
        t.keep(0);
        Due.is("12 at 9000", t.sunset(), 0);
        Due.is("12 above 9000", t.sunset(), FULL);
        Due.is("13 above 9000", t.drift(1), FULL);
        Due.is("13 OUTSIDE goes ahead", t.drift(21), OUTSIDE);
        Due.is("12 undone", t.undo(1), 9000);
        Due.is("13 at 9000", t.drift(20), 0);
        Due.is("13 beyond", t.told(6), 9020);
        Due.is("12 beyond", t.sunset(), FULL);
        t.goBack(0);
        Due.is("12 back", t.told(6), 9000);
        t.town();
        Due.is("12 NOT goes ahead", t.sunset(), NOT);
    }

    // 13
    private static void drift() {
        BlameTown t = of(ONE);
        Due.is("13 RATE", t.drift(1), 3);
        Due.is("13 DAYS", t.told(6), 1);
        Due.is("13 one DRAW", t.seed(0), 12345);
        Due.is("13 SPENT in all", t.drift(1), 6);
        Due.is("13 none", t.drift(0), OUTSIDE);
        Due.is("13 below", t.drift(-1), OUTSIDE);
        Due.is("13 above", t.drift(21), OUTSIDE);
        Due.is("13 far above", t.drift(Integer.MAX_VALUE), OUTSIDE);
        // WORN grows to 4 in four DAYS (12 SPENT); then he FITS every other DAY: 9 times 7, 9 times 3
        Due.is("13 most", t.drift(20), 102);
        Due.is("13 DAYS", t.told(6), 22);
        Due.is("13 each DAY is one", t.told(11), 22);
        BlameTown nobody = of("a0 7;m15 0 3ffffff;x0 0 0 0 2 9;");
        Due.is("13 THE MAYOR pays", nobody.drift(2), 28);
        Due.is("13 no DRAW", nobody.seed(0), 0);
        BlameTown none = new BlameTown();
        Due.is("13 no TOWN", none.drift(1), NOT);
        Due.is("13 OUTSIDE goes ahead", none.drift(0), OUTSIDE);
    }

    // 13
    private static void driftTakesTurns() {
        BlameTown t = of("a0 7;m0 0 1aaaaaa;m0 0 10aaaaaa;m0 0 20aaaaaa;x0 0 0 0 2 9;");
        t.blame(1, 0);
        // DRAW of 2 by the seed 21: 21 * 1103515245 + 12345, left over by 2^31, / 65536, left over by 2
        long first = (21L * 1103515245L + 12345L) % (1L << 31);
        int rate = first / 65536 % 2 == 0 ? 1 : 20;
        t.seed(21);
        Due.is("13 the DRAW's RATE", t.drift(1), 10 + rate);
        Due.is("13 one DRAW", t.seed(2147483647), first);
        Due.is("13 the greatest SEED", t.drift(1) > 0 ? 1 : 0, 1);
        long second = (2147483647L % (1L << 31) * 1103515245L + 12345L) % (1L << 31);
        long third = (second * 1103515245L + 12345L) % (1L << 31);
        Due.is("13 two DRAWS", t.seed(0), third);
    }

    // 14
    private static void undo() {
        BlameTown t = of(THREE);
        Due.is("14 nothing", t.undo(1), NOT);
        t.blame(0, 0);
        t.walk(0, 0, 5);
        t.clear(0, 0);
        t.sunset();
        Due.is("14 below", t.undo(0), OUTSIDE);
        Due.is("14 far below", t.undo(Integer.MIN_VALUE), OUTSIDE);
        Due.is("14 above", t.undo(31), OUTSIDE);
        Due.is("14 not so many", t.undo(5), NOT);
        Due.is("14 SUNSET", t.undo(1), 0);
        Due.is("14 the WALK is back", t.man(0, 5), 5);
        Due.is("14 SPENT is back", t.told(7), 5);
        Due.is("14 CLEARED and WALK", t.undo(2), 0);
        Due.is("14 BLAMED is back", t.mishap(0, 6), 1);
        Due.is("14 WORN is back", t.man(0, 3), 1);
        Due.is("14 where he was", t.man(0, 5), 0);
        Due.is("14 one more", t.told(11), 1);
        Due.is("14 BLAMED", t.undo(1), 0);
        Due.is("14 SPENT", t.told(7), 0);
        Due.is("14 none left", t.undo(1), NOT);
        for (int k = 0; k < 45; k++) {
            t.walk(0, 0, k % 6);
        }
        Due.is("14 30 are kept", t.told(11), 30);
        Due.is("14 30 are undone", t.undo(30), 0);
        Due.is("14 the 15th WALK", t.man(0, 5), 2);
        Due.is("14 none left", t.told(11), 0);
    }

    // 14
    private static void undoDays() {
        BlameTown t = of(ONE);
        t.drift(20);
        int drawn = t.seed(5);
        t.see(0, 0, 0);
        t.write(0, 0);
        Due.is("14 seven DAYS", t.undo(7), 13);
        // four DAYS of 3, then 7 and 3 by turns: five times 7, four times 3
        Due.is("14 SPENT", t.told(7), 59);
        Due.is("14 THE SEED stays", t.seed(drawn), 5);
        Due.is("14 SEEN stays", t.told(9), 1);
        Due.is("14 THE BOOK stays", t.told(10), 1);
        t.drift(20);
        Due.is("14 at most 30", t.told(11), 30);
        t.keep(0);
        Due.is("14 since the IMAGE", t.undo(1), NOT);
        t.sunset();
        t.goBack(0);
        Due.is("14 since the IMAGE", t.undo(1), NOT);
    }

    // 15
    private static void may() {
        BlameTown t = of(THREE);
        Due.is("15 x0", t.may(0), 7);
        Due.is("15 x1", t.may(1), 2);
        Due.is("15 x2", t.may(2), 7);
        t.blame(0, 0);
        Due.is("15 full", t.may(0), 0);
        t.blame(1, 1);
        Due.is("15 FAR", t.may(2), 5);
        Due.is("15 no MISHAP", t.may(3), UNKNOWN);
        for (int x : WRONG) {
            Due.is("15 " + x, t.may(x), UNKNOWN);
        }
    }

    // 16
    private static void orphans() {
        BlameTown t = of("a0 9;m1 0 5aaaaaa;x0 0 0 0 1 9;x5 0 0 0 1 9;x0 0 2 0 2 9;x0 0 0 0 2 9;");
        Due.is("16", t.orphans(), 6);
        t.blame(0, 0);
        Due.is("16 what is full is none", t.orphans(), 6);
        t.blame(0, 3);
        Due.is("16 half full", t.orphans(), 14);
        t.walk(0, 0, 5);
        Due.is("16 he is FAR", t.orphans(), 14);
    }

    // 17
    private static void shared() {
        BlameTown t = of(THREE);
        Due.is("17 how much", t.shared(NONE), 24);
        Due.is("17 x0", t.shared(0), 1);
        Due.is("17 x1", t.shared(1), 2);
        Due.is("17 x2", t.shared(2), 5);
        Due.is("17 no MISHAP", t.shared(3), UNKNOWN);
        for (int x : WRONG) {
            if (x != NONE) {
                Due.is("17 " + x, t.shared(x), UNKNOWN);
            }
        }
        Due.is("17 nothing changes", t.told(7) + t.told(11) + t.mishap(0, 6), 0);
        t.blame(0, 0);
        t.blame(0, 2);
        t.blame(1, 1);
        Due.is("17 whoever is BLAMED", t.shared(NONE), 24);
        t.sunset();
        Due.is("17 WORN 2: he FITS not a second time", t.shared(NONE), 9 + 100 + 14);
        Due.is("17 so another is BLAMED twice", t.shared(0), 4);
        BlameTown cheap = of("a0 2;m1 0 5aaaaaa;m1 0 5aaaaaa;x0 0 0 0 2 9;");
        Due.is("17 THE MAYOR is cheaper", cheap.shared(NONE), 4);
        Due.is("17 nobody", cheap.shared(0), 0);
    }

    // 17
    private static void sharedWears() {
        // BELIEF 3 THERE, B 2: he FITS for two of three; what is FAR is not his
        BlameTown t = of("a2 50;m0 0 4aaaaaa;x0 0 0 0 1 9;x0 1 0 0 1 9;x0 2 0 0 1 9;");
        Due.is("17 two of three", t.shared(NONE), 58);
        Due.is("17 nobody first", t.shared(0), 0);
        Due.is("17 then he", t.shared(1) + t.shared(2), 2);
        t.blame(0, 0);
        t.blame(0, 1);
        Due.is("17 WORN less what he is BLAMED for", t.shared(NONE), 58);
        t.sunset();
        Due.is("17 WORN 2", t.shared(NONE), 150);
        t.sunset();
        Due.is("17 WORN 1", t.shared(NONE), 104);
        Due.is("17 the last", t.shared(2), 1);
        BlameTown far = of("a0 50;m0 0 4acaaaa;x0 0 0 0 1 9;x2 1 0 0 1 9;");
        Due.is("17 FAR", far.shared(NONE), 54);
        Due.is("17 nobody first", far.shared(0), 0);
        Due.is("17 the other", far.shared(1), 1);
        // WORN below what he is BLAMED for: 0 at least
        BlameTown low = of("a0 50;m0 0 4aaaaaa;x0 0 0 0 1 9;");
        low.blame(0, 0);
        Due.is("17 0 at least", low.shared(NONE), 4);
    }

    // 17
    private static void sharedTies() {
        BlameTown t = of("a0 50;m0 0 4aaaaaa;m0 0 4aaaaaa;m0 0 4aaaaaa;x0 0 0 0 2 9;x0 0 0 0 1 9;");
        Due.is("17 like ones", t.shared(NONE), 12);
        Due.is("17 the least SET", t.shared(0), 3);
        Due.is("17 the least SET", t.shared(1), 1);
        BlameTown even = of("a0 4;m0 0 4aaaaaa;x0 0 0 0 1 9;");
        Due.is("17 as dear as THE MAYOR", even.shared(NONE), 4);
        Due.is("17 nobody is first", even.shared(0), 0);
        BlameTown pairs = of("a0 50;m0 0 9aaaaaa;m0 0 2aaaaaa;m0 0 2aaaaaa;m0 0 2aaaaaa;x0 0 0 0 2 9;");
        Due.is("17 1 and 2", pairs.shared(0), 6);
        BlameTown last = of("a0 500;" + times("m0 0 90aaaaaa;", 5) + times("m0 0 2aaaaaa;", 2) + times("x0 0 0 0 2 9;", 2));
        Due.is("17 the last of 21 pairs", last.shared(0), 96);
        Due.is("17 for both", last.shared(1), 96);
        Due.is("17 how much", last.shared(NONE), 8);
    }

    // 18
    private static void cheapest() {
        BlameTown t = of("a0 9;m1 0 5aaaaaa;m1 0 3aaaaaa;m1 0 3aaaaaa;m1 0 3ffffff;"
                + "x0 0 0 0 2 9;x0 0 0 0 1 9;x5 0 0 0 2 9;x0 0 2 0 1 9;");
        Due.is("18 two", t.cheapest(0), 6);
        Due.is("18 one of like ones", t.cheapest(1), 2);
        Due.is("18 too few", t.cheapest(2), NONE);
        Due.is("18 nobody", t.cheapest(3), NONE);
        t.blame(1, 0);
        Due.is("18 one place left", t.cheapest(0), 4);
        t.blame(2, 0);
        Due.is("18 full", t.cheapest(0), NONE);
        Due.is("18 no MISHAP", t.cheapest(4), UNKNOWN);
        for (int x : WRONG) {
            Due.is("18 " + x, t.cheapest(x), UNKNOWN);
        }
        BlameTown ties = of("a0 9;m1 0 1aaaaaa;m1 0 3aaaaaa;m1 0 3aaaaaa;x0 0 0 0 2 9;");
        Due.is("18 like ones: the least SET", ties.cheapest(0), 3);
    }

    // 19
    private static void culprits() {
        BlameTown t = of("a6 9;m1 0 5aaaaaa;m3 0 5bbbbbb;m2 0 5aaaaaa;m1 0 5-aaaaa;x0 0 1 0 1 9;x1 0 2 0 1 9;");
        Due.is("19 THERE and CAN", t.culprits(0), 1);
        Due.is("19 another", t.culprits(1), 2);
        t.walk(3, 0, 0);
        Due.is("19 he WALKS there", t.culprits(0), 9);
        Due.is("19 the jury thinks otherwise", t.may(0), 0);
        Due.is("19 no MISHAP", t.culprits(2), UNKNOWN);
        for (int x : WRONG) {
            Due.is("19 " + x, t.culprits(x), UNKNOWN);
        }
    }

    // 20
    private static void idle() {
        BlameTown t = of(THREE);
        Due.is("20 all", t.idle(), 7);
        t.blame(1, 1);
        Due.is("20 not he", t.idle(), 5);
        t.blame(0, 0);
        t.blame(0, 2);
        Due.is("20 the last", t.idle(), 4);
        t.clear(0, 0);
        Due.is("20 for another still", t.idle(), 4);
        t.sunset();
        Due.is("20 all again", t.idle(), 7);
        Due.is("20 no MEN", of("a0 1;x0 0 0 0 1 9;").idle(), 0);
    }

    // 21
    private static void nearer() {
        BlameTown t = of("a1 9;m1 0 5fab-ff;m1 1 5ffffff;m0 0 5aaaaaa;"
                + "x2 0 1 0 1 9;x0 1 1 0 1 9;x2 2 1 0 1 9;x2 3 1 0 1 9;");
        Due.is("21 beside is enough", t.nearer(0, 0, 0), 2);
        Due.is("21 where", t.nearer(0, 0, 1), 3);
        Due.is("21 he FITS", t.nearer(0, 1, 0), 0);
        Due.is("21 where he is", t.nearer(0, 1, 1), 0);
        Due.is("21 beside FITS", t.nearer(0, 2, 0), 0);
        Due.is("21 beside, where he is", t.nearer(0, 2, 1), 1);
        Due.is("21 nowhere", t.nearer(0, 3, 0), NONE);
        Due.is("21 nowhere", t.nearer(0, 3, 1), NONE);
        Due.is("21 CANNOT", t.nearer(2, 1, 0), NONE);
        Due.is("21 what", t.nearer(0, 0, 2), OUTSIDE);
        Due.is("21 what", t.nearer(0, 0, -1), OUTSIDE);
        Due.is("21 UNKNOWN goes ahead", t.nearer(3, 0, 2), UNKNOWN);
        Due.is("21 no MISHAP", t.nearer(0, 4, 0), UNKNOWN);
        for (int wrong : WRONG) {
            Due.is("21 man " + wrong, t.nearer(wrong, 0, 0), UNKNOWN);
            Due.is("21 mishap " + wrong, t.nearer(0, wrong, 0), UNKNOWN);
            Due.is("21 what " + wrong, t.nearer(0, 0, wrong), OUTSIDE);
        }
        BlameTown sharp = of("a3 9;m1 0 5bbbbbb;m1 0 5ffffff;x2 0 1 0 1 9;x0 1 4 0 1 9;x0 2 1 0 1 9;");
        Due.is("21 THERE alone", sharp.nearer(0, 0, 0), 1);
        Due.is("21 THERE alone, where", sharp.nearer(0, 0, 1), 2);
        Due.is("21 the other way", sharp.nearer(1, 2, 0), 5);
        sharp.walk(0, 0, 2);
        Due.is("21 he WALKS there", sharp.nearer(0, 0, 0), 0);
        sharp.blame(0, 0);
        Due.is("21 WORN: nowhere", sharp.nearer(0, 0, 0), NONE);
        BlameTown strict = of("a6 9;m1 1 5aaaaaa;x0 0 0 0 1 9;");
        Due.is("21 nobody FITS", strict.nearer(0, 0, 1), NONE);
    }

    // 22
    private static void chain() {
        BlameTown t = of("a0 9;x0 0 0 0 1 9;x0 0 0 0 1 0;x0 0 0 0 1 9;x0 0 0 0 1 1;");
        int[] chains = {0, 1, 0, 2};
        int[] roots = {0, 0, 2, 0};
        int[] wholes = {11, 11, 4, 11};
        for (int x = 0; x < 4; x++) {
            Due.is("22 CHAIN " + x, t.chain(x, 0), chains[x]);
            Due.is("22 ROOT " + x, t.chain(x, 1), roots[x]);
            Due.is("22 WHOLE " + x, t.chain(x, 2), wholes[x]);
        }
        BlameTown line = of("a0 9;x0 0 0 0 1 9;x0 0 0 0 1 0;x0 0 0 0 1 1;x0 0 0 0 1 2;");
        Due.is("22 the longest", line.chain(3, 0), 3);
        Due.is("22 its ROOT", line.chain(3, 1), 0);
        Due.is("22 what", t.chain(0, 3), OUTSIDE);
        Due.is("22 what", t.chain(0, -1), OUTSIDE);
        Due.is("22 UNKNOWN goes ahead", t.chain(4, 3), UNKNOWN);
        for (int wrong : WRONG) {
            Due.is("22 mishap " + wrong, t.chain(wrong, 0), UNKNOWN);
            Due.is("22 what " + wrong, t.chain(0, wrong), OUTSIDE);
        }
    }

    // 23
    private static void quiet() {
        BlameTown one = of("a0 9;x0 0 0 0 1 9;");
        Due.is("23 no DAY", one.quiet(0, 100), 1000000000);
        Due.is("23 half", one.quiet(1, 50), 500000000);
        Due.is("23 sure", one.quiet(1, 100), 0);
        Due.is("23 never", one.quiet(60, 0), 1000000000);
        // 1000000000 .. 1000 by tenths, then 100, 10, 1, 0
        Due.is("23 nine tenths off", one.quiet(9, 90), 1);
        Due.is("23 cut", one.quiet(10, 90), 0);
        Due.is("23 cut each time", one.quiet(4, 99), 10);
        BlameTown two = of("a0 9;x0 0 0 0 1 9;x0 0 0 0 2 9;");
        Due.is("23 each by itself", two.quiet(1, 50), 250000000);
        long odds = 1000000000;
        for (int k = 0; k < 120; k++) {
            odds = odds * 97 / 100;
        }
        Due.is("23 the most DAYS", two.quiet(60, 3), odds);
        Due.is("23 too many DAYS", two.quiet(61, 3), OUTSIDE);
        Due.is("23 DAYS below", two.quiet(-1, 3), OUTSIDE);
        Due.is("23 above a hundred", two.quiet(1, 101), OUTSIDE);
        Due.is("23 below", two.quiet(1, -1), OUTSIDE);
        Due.is("23 far above", two.quiet(Integer.MAX_VALUE, Integer.MIN_VALUE), OUTSIDE);
    }

    // 24
    private static void see() {
        BlameTown t = of(THREE);
        for (int k = 1; k <= 6; k++) {
            Due.is("24 " + k, t.see(k % 3, 5, 5), k);
        }
        Due.is("24 full", t.see(0, 0, 0), FULL);
        Due.is("24 OUTSIDE goes ahead", t.see(0, 6, 0), OUTSIDE);
        Due.is("24 UNKNOWN goes ahead", t.see(3, 6, 0), UNKNOWN);
        for (int wrong : WRONG) {
            Due.is("24 man " + wrong, t.see(wrong, 0, 0), UNKNOWN);
            Due.is("24 hour " + wrong, t.see(0, wrong, 0), OUTSIDE);
            Due.is("24 place " + wrong, t.see(0, 0, wrong), OUTSIDE);
        }
        Due.is("24 place 6", t.see(0, 0, 6), OUTSIDE);
        t.sunset();
        Due.is("24 stays", t.told(9), 6);
    }

    // 25
    private static void alibi() {
        BlameTown t = of("a0 9;m0 0 1------;m0 0 1------;x0 0 0 0 1 9;x3 3 0 0 1 9;x5 1 0 0 1 9;x0 5 0 0 1 9;");
        Due.is("25 not SEEN", t.alibi(0), 0);
        t.see(0, 0, 0);
        Due.is("25 as many PLACES as HOURS: he could", t.alibi(0), 4);
        Due.is("25 another was not SEEN", t.alibi(1), 0);
        t.see(0, 5, 5);
        Due.is("25 by all", t.alibi(0), 12);
        t.see(1, 3, 3);
        Due.is("25 back in time, too", t.alibi(1), 8);
        t.see(1, 1, 4);
        Due.is("25 by both", t.alibi(1), 13);
        Due.is("25 no MAN", t.alibi(2), UNKNOWN);
        for (int wrong : WRONG) {
            Due.is("25 man " + wrong, t.alibi(wrong), UNKNOWN);
        }
    }

    // 26
    private static void write() {
        BlameTown t = of(THREE);
        for (int k = 1; k <= 20; k++) {
            Due.is("26 " + k, t.write(k % 3, k % 3), k);
        }
        Due.is("26 full", t.write(0, 0), FULL);
        Due.is("26 UNKNOWN goes ahead", t.write(3, 0), UNKNOWN);
        Due.is("26 no MISHAP", t.write(0, 3), UNKNOWN);
        for (int wrong : WRONG) {
            Due.is("26 man " + wrong, t.write(wrong, 0), UNKNOWN);
            Due.is("26 mishap " + wrong, t.write(0, wrong), UNKNOWN);
        }
        Due.is("26 told", t.told(10), 20);
    }

    // 27
    private static void judge() {
        BlameTown t = of(THREE);
        Due.is("27 no BOOK", t.judge(), NONE);
        t.blame(0, 0);
        t.blame(1, 1);
        t.write(0, 0);
        t.write(1, 1);
        Due.is("27 all are", t.judge(), NONE);
        t.write(0, 1);
        t.write(2, 2);
        Due.is("27 the first that is not", t.judge(), 2);
        t.clear(1, 1);
        Due.is("27 not any more", t.judge(), 1);
        t.sunset();
        Due.is("27 nobody is", t.judge(), 0);
        t.undo(2);
        Due.is("27 undone", t.judge(), 2);
    }

    // 28
    private static void tear() {
        BlameTown t = of(THREE);
        t.see(0, 0, 5);
        t.write(1, 1);
        t.write(1, 1);
        Due.is("28 both", t.tear(), 3);
        Due.is("28 nothing SEEN", t.told(9), 0);
        Due.is("28 no BOOK", t.told(10), 0);
        Due.is("28 no ALIBI", t.alibi(0), 0);
        Due.is("28 nothing WRONG", t.judge(), NONE);
        Due.is("28 nothing left", t.tear(), 0);
        Due.is("28 from the front", t.see(0, 0, 5), 1);
        Due.is("28 is no deed", t.told(11), 0);
    }

    // 29
    private static void seed() {
        BlameTown t = new BlameTown();
        Due.is("29 0 at first", t.seed(2147483647), 0);
        Due.is("29 the greatest", t.seed(0), 2147483647);
        Due.is("29 the least", t.seed(7), 0);
        Due.is("29 below", t.seed(-1), OUTSIDE);
        Due.is("29 far below", t.seed(Integer.MIN_VALUE), OUTSIDE);
        Due.is("29 what is refused changes nothing", t.seed(7), 7);
    }

    // 30, 31
    private static void images() {
        BlameTown t = of(THREE);
        Due.is("31 not kept", t.goBack(0), NOT);
        for (int i : new int[] {-1, 2, Integer.MIN_VALUE, Integer.MAX_VALUE}) {
            Due.is("30 " + i, t.keep(i), UNKNOWN);
            Due.is("31 " + i, t.goBack(i), UNKNOWN);
        }
        t.blame(0, 0);
        t.walk(1, 2, 5);
        t.seed(9);
        t.see(0, 0, 0);
        Due.is("30 kept", t.keep(0), 1);
        Due.is("30 nothing can be undone", t.told(11), 0);
        Due.is("31 the other is not kept", t.goBack(1), NOT);
        t.sunset();
        t.seed(10);
        t.see(0, 0, 0);
        t.write(0, 0);
        t.feed('a');
        Due.is("30 the other", t.keep(1), 1);
        t.sunset();
        Due.is("31 back", t.goBack(0), 1);
        Due.is("31 nothing can be undone", t.told(11), 0);
        Due.is("31 DAYS", t.told(6), 0);
        Due.is("31 SPENT", t.told(7), 5);
        Due.is("31 BLAMED", t.mishap(0, 6), 1);
        Due.is("31 WORN", t.man(0, 3), 1);
        Due.is("31 WALKS", t.man(1, 7), 5);
        Due.is("31 THE SEED", t.seed(1), 9);
        Due.is("31 SEEN is not in it", t.told(9), 2);
        Due.is("31 THE BOOK is not in it", t.told(10), 1);
        Due.is("31 THE TEXT is not in it", t.told(5), 1);
        t.clear(0, 0);
        Due.is("31 the other", t.goBack(1), 1);
        Due.is("31 DAYS", t.told(6), 1);
        Due.is("31 WORN stays at SUNSET", t.man(0, 3), 1);
        Due.is("31 THE SEED", t.seed(1), 10);
        Due.is("31 once more", t.goBack(0), 1);
        Due.is("31 the IMAGE itself stays", t.mishap(0, 6), 1);
        t.keep(0);
        t.sunset();
        Due.is("31 kept anew", t.goBack(0), 1);
        Due.is("31 kept anew", t.told(6), 0);
    }
}
