/** The edges of section 2 of the document's terms, of what is BY DRAWS and UNDONE, and of promises 6 to 14. */
public final class DeedEdgesTest extends Towns {
    private static final String A = "a0 1;";
    private static final String M = "m0 0 1------;";
    private static final String X = "x0 0 0 0 1 9;";
    /** 2 to the 31. */
    private static final long WRAP = 1L << 31;

    public static void main(String[] args) {
        manWhat();
        manBounds();
        mishapWhat();
        mishapBounds();
        numbersFromNought();
        near();
        nearAtItsHour();
        can();
        hates();
        there();
        believed();
        wornMost();
        wornAtFirst();
        fits();
        fitsToNought();
        far();
        blameBounds();
        blamedPlace();
        blamedOnce();
        blamedWorn();
        cleared();
        clearedWorn();
        walkBounds();
        walkTheSame();
        walkBlamed();
        sunsetPays();
        sunsetWears();
        sunsetRows();
        sunsetRefused();
        daysLimit();
        driftBounds();
        driftLimit();
        seedWraps();
        drawsRising();
        drawsWhileFree();
        driftDays();
        undoBounds();
        undoMost();
        undoDays();
        undoSeed();
        undoSince();
        undoWhole();
        Due.end();
    }

    private static void manWhat() {
        Due.about("6", "Of a MAN: what = 0 POWERS, 1 HATES, 2 RATE, 3 WORN, 4 MISHAPS for which he is BLAMED (a SET of MISHAPS),");
        BlameTown t = of("a0 1;m1 2 3aaaaaa;m2 4 6aaaaaa;x0 0 0 0 2 9;x0 0 0 0 1 9;x0 0 0 0 2 9;x0 0 0 0 1 9;");
        t.blame(0, 0);
        t.blame(0, 2);
        t.blame(1, 2);
        t.blame(1, 3);
        t.blame(0, 1);
        int[][] due = {{1, 2, 3, 3, 1 + 2 + 4}, {2, 4, 6, 2, 4 + 8}};
        for (int m = 0; m < 2; m++) {
            for (int what = 0; what <= 4; what++) {
                Due.is("MAN " + m + ", " + what, t.man(m, what), due[m][what]);
            }
        }
        t.clear(0, 0);
        Due.is("WORN", t.man(0, 3), 2);
        Due.is("two of them", t.man(0, 4), 2 + 4);
        t.sunset();
        Due.is("nothing", t.man(0, 4), 0);
    }

    private static void manBounds() {
        Due.about("6", "5 to 10 the PLACE at HOURS 0 to 5 (NONE: nowhere). UNKNOWN, OUTSIDE.");
        BlameTown t = of(A + times(M, 6) + "m15 63 99abcdef;");
        int[] due = {15, 63, 99, 0, 0, 0, 1, 2, 3, 4, 5};
        for (int what = 0; what < due.length; what++) {
            Due.is("the seventh, " + what, t.man(6, what), due[what]);
        }
        for (int what = 5; what <= 10; what++) {
            Due.is("nowhere, " + what, t.man(0, what), NONE);
        }
        Due.is("what below", t.man(6, -1), OUTSIDE);
        Due.is("what above", t.man(6, 11), OUTSIDE);
        Due.is("an eighth", t.man(7, 0), UNKNOWN);
        Due.is("ahead of the first", t.man(-1, 0), UNKNOWN);
        BlameTown none = of(A);
        Due.is("no MEN", none.man(0, 0), UNKNOWN);
        BlameTown one = of(A + M);
        Due.is("one", one.man(0, 2), 1);
        Due.is("no second", one.man(1, 2), UNKNOWN);
    }

    private static void mishapWhat() {
        Due.about("7", "Of a MISHAP: what = 0 PLACE, 1 HOUR, 2 POWERS, 3 VICTIM, 4 Z, 5 J (NONE),");
        BlameTown t = of("a0 1;x1 2 3 4 1 9;x5 4 8 2 2 0;x0 0 0 0 1 1;x3 1 15 5 2 9;");
        int[][] due = {{1, 2, 3, 4, 1, NONE}, {5, 4, 8, 2, 2, 0}, {0, 0, 0, 0, 1, 1}, {3, 1, 15, 5, 2, NONE}};
        for (int x = 0; x < 4; x++) {
            for (int what = 0; what <= 5; what++) {
                Due.is("MISHAP " + x + ", " + what, t.mishap(x, what), due[x][what]);
            }
        }
    }

    private static void mishapBounds() {
        Due.about("7", "5 J (NONE), 6 who is BLAMED for it (a SET). UNKNOWN, OUTSIDE.");
        BlameTown t = of(A + times("m15 0 1eeeeee;", 7) + times(X, 3) + "x5 4 15 3 2 2;");
        int[] due = {5, 4, 15, 3, 2, 2, 0};
        for (int what = 0; what < due.length; what++) {
            Due.is("the fourth, " + what, t.mishap(3, what), due[what]);
        }
        Due.is("from none", t.mishap(0, 5), NONE);
        t.blame(5, 3);
        t.blame(6, 3);
        Due.is("the last two MEN", t.mishap(3, 6), 32 + 64);
        Due.is("what below", t.mishap(3, -1), OUTSIDE);
        Due.is("what above", t.mishap(3, 7), OUTSIDE);
        Due.is("a fifth", t.mishap(4, 0), UNKNOWN);
        Due.is("ahead of the first", t.mishap(-1, 0), UNKNOWN);
        Due.is("no MISHAPS", of(A + M).mishap(0, 0), UNKNOWN);
    }

    private static void numbersFromNought() {
        Due.about("6, 7, 9", "What has a number has it from 0 on, as it comes. A SET is a whole number, bit k for k");
        BlameTown t = of("a0 1;m0 0 7aaaaaa;x0 0 0 1 1 9;m0 0 8aaaaaa;x0 0 0 2 2 9;x0 0 0 3 2 9;x0 0 0 4 2 9;");
        Due.is("the first MAN", t.man(0, 2), 7);
        Due.is("the second, a MISHAP between", t.man(1, 2), 8);
        for (int x = 0; x < 4; x++) {
            Due.is("MISHAP " + x, t.mishap(x, 3), x + 1);
        }
        t.blame(1, 3);
        Due.is("bit 3", t.man(1, 4), 8);
        Due.is("bit 1", t.mishap(3, 6), 2);
        t.blame(0, 3);
        Due.is("both", t.mishap(3, 6), 3);
        t.blame(0, 0);
        t.blame(0, 1);
        Due.is("WORN 3: BELIEF 0", t.blame(0, 2), 7);
        Due.is("all bits", t.man(0, 4), 15);
    }

    private static void near() {
        Due.about("8", "A MAN is NEAR a MISHAP, if at its HOUR he is at its PLACE or one beside it; THERE, if at its PLACE.");
        for (int place = 0; place < 6; place++) {
            for (int at = -1; at < 6; at++) {
                String row = times(at == -1 ? "-" : "" + (char) ('a' + at), 6);
                BlameTown t = of("a0 1;m0 0 1" + row + ";x" + place + " 0 0 0 1 9;");
                int apart = Math.abs(place - at);
                int due = at == -1 || apart > 1 ? 0 : apart == 1 ? 11 : 13;
                Due.is("BELIEF of one at " + at + ", it is at " + place, t.belief(0, 0), due);
                Due.is("CULPRIT", t.culprits(0), due == 13 ? 1 : 0);
                Due.is("BLAMED", t.blame(0, 0), due == 0 ? NOT : 1);
            }
        }
    }

    private static void nearAtItsHour() {
        Due.about("8", "if at its HOUR he is");
        for (int hour = 0; hour < 6; hour++) {
            String there = times("f", hour) + "a" + times("f", 5 - hour);
            String elsewhere = times("a", hour) + "-" + times("a", 5 - hour);
            BlameTown t = of("a0 1;m0 0 1" + there + ";m0 0 1" + elsewhere + ";x0 " + hour + " 0 0 1 9;");
            Due.is("at that HOUR alone " + hour, t.belief(0, 0), 13);
            Due.is("at all HOURS but " + hour, t.belief(1, 0), 0);
        }
    }

    private static void can() {
        Due.about("8", "He CAN, if he has all POWERS that it needs.");
        for (int powers = 0; powers <= 15; powers++) {
            for (int needs = 0; needs <= 15; needs += 4) {
                StringBuilder text = new StringBuilder("a0 1;m" + powers + " 0 1aaaaaa;");
                for (int k = 0; k < 4; k++) {
                    text.append("x0 0 ").append(needs + k).append(" 0 1 9;");
                }
                BlameTown t = of(text.toString());
                for (int k = 0; k < 4; k++) {
                    boolean hasAll = (powers & (needs + k)) == needs + k;
                    Due.is(powers + " for " + (needs + k), t.belief(0, k), hasAll ? 13 : 0);
                }
            }
        }
    }

    private static void hates() {
        Due.about("8", "BELIEF: 1, 2 more if he HATES its VICTIM,");
        for (int victim = 0; victim < 6; victim++) {
            BlameTown t = of("a0 1;m0 " + (1 << victim) + " 1aaaaaa;m0 " + (63 - (1 << victim)) + " 1aaaaaa;"
                    + "x0 0 0 " + victim + " 1 9;x1 0 0 " + victim + " 1 9;");
            Due.is("THERE, HATES " + victim, t.belief(0, 0), 15);
            Due.is("THERE, HATES all but " + victim, t.belief(1, 0), 13);
            Due.is("beside, HATES " + victim, t.belief(0, 1), 13);
            Due.is("beside, HATES all but " + victim, t.belief(1, 1), 11);
        }
    }

    private static void there() {
        Due.about("8", "2 more if he is THERE,");
        BlameTown t = of("a0 1;m0 1 1bbbbbb;x0 0 0 0 1 9;x1 0 0 0 1 9;x2 0 0 1 1 9;x1 1 0 1 1 9;");
        Due.is("beside, below", t.belief(0, 0), 13);
        Due.is("THERE", t.belief(0, 1), 15);
        Due.is("beside, above", t.belief(0, 2), 11);
        Due.is("THERE at another HOUR", t.belief(0, 3), 13);
        t.walk(0, 0, 2);
        Due.is("he WALKS off: not NEAR", t.belief(0, 0), 0);
        Due.is("he WALKS off: beside", t.belief(0, 1), 13);
        Due.is("he WALKS THERE", t.belief(0, 2), 13);
        Due.is("not at another HOUR", t.belief(0, 3), 13);
    }

    private static void believed() {
        Due.about("8", "BELIEF, and 10 (so that it is above 0); 0: he is not NEAR, or CANNOT. UNKNOWN.");
        // THERE and hating he is believed till he is WORN by 6; beside and not hating that leaves 1 - 6 + 10
        BlameTown t = of("a0 1;m1 1 1aaaaaa;x0 0 1 0 1 9;x1 0 1 1 1 9;x2 0 1 0 1 9;x0 0 2 0 1 9;");
        for (int worn = 0; worn <= 5; worn++) {
            Due.is("WORN " + worn, t.belief(0, 0), 15 - worn);
            Due.is("beside, WORN " + worn, t.belief(0, 1), 11 - worn);
            t.blame(0, 0);
            t.sunset();
        }
        Due.is("below 0", t.belief(0, 0), 9);
        Due.is("the least", t.belief(0, 1), 5);
        Due.is("not NEAR", t.belief(0, 2), 0);
        Due.is("CANNOT", t.belief(0, 3), 0);
        Due.is("no MAN", t.belief(1, 0), UNKNOWN);
        Due.is("no MAN below", t.belief(-1, 0), UNKNOWN);
        Due.is("no MISHAP", t.belief(0, 4), UNKNOWN);
        Due.is("no MISHAP below", t.belief(0, -1), UNKNOWN);
        Due.is("neither", t.belief(9, 9), UNKNOWN);
    }

    private static void wornMost() {
        Due.about("8, 9, 12", "less his WORN (0 at first, 9 at most).");
        // 5 is the most that is believed, 0 the least from which on a jury does: the sixth blame is the last
        BlameTown t = of("a0 1;m0 1 1aaaaaa;" + times(X, 4));
        for (int x = 0; x < 4; x++) {
            Due.is("blame " + x, t.blame(0, x), 1);
        }
        t.sunset();
        Due.is("the fifth", t.blame(0, 0), 1);
        Due.is("BELIEF 0", t.belief(0, 1), 10);
        Due.is("the sixth", t.blame(0, 1), 1);
        Due.is("WORN 6", t.man(0, 3), 6);
        Due.is("BELIEF below 0", t.belief(0, 2), 9);
        Due.is("no seventh", t.blame(0, 2), NOT);
        t.sunset();
        Due.is("WORN stays", t.man(0, 3), 6);
        Due.is("nor the next DAY", t.blame(0, 0), NOT);
        t.sunset();
        Due.is("WORN 5", t.man(0, 3), 5);
        Due.is("the DAY after", t.blame(0, 0), 1);
    }

    private static void wornAtFirst() {
        Due.about("3, 6, 8", "WORN (0 at first,");
        BlameTown t = of("a0 1;" + times("m0 1 1aaaaaa;", 7) + X);
        for (int m = 0; m < 7; m++) {
            Due.is("MAN " + m, t.man(m, 3), 0);
            Due.is("BELIEF of " + m, t.belief(m, 0), 15);
        }
    }

    private static void fits() {
        Due.about("9", "He FITS, if he is NEAR, CAN, and BELIEF is B or more.");
        String[] men = {"m0 0 3bbbbbb;", "m0 0 3aaaaaa;", "m0 1 3bbbbbb;", "m0 1 3aaaaaa;"};
        int[] beliefs = {1, 3, 3, 5};
        for (int k = 0; k < men.length; k++) {
            for (int jury = 0; jury <= 6; jury++) {
                BlameTown t = of("a" + jury + " 1;" + men[k] + X);
                Due.is("MAY, " + beliefs[k] + " for " + jury, t.may(0), beliefs[k] >= jury ? 1 : 0);
                Due.is("BLAMED, " + beliefs[k] + " for " + jury, t.blame(0, 0), beliefs[k] >= jury ? 3 : NOT);
            }
        }
        Due.is("not NEAR", of("a0 1;m0 1 3cccccc;" + X).blame(0, 0), NOT);
        Due.is("CANNOT", of("a0 1;m14 1 3aaaaaa;x0 0 1 0 1 9;").blame(0, 0), NOT);
        Due.is("CAN just", of("a0 1;m1 1 3aaaaaa;x0 0 1 0 1 9;").blame(0, 0), 3);
    }

    private static void fitsToNought() {
        Due.about("9", "BELIEF is B or more.");
        BlameTown t = of("a0 1;m0 0 3bbbbbb;" + times(X, 4));
        Due.is("BELIEF 1", t.blame(0, 0), 3);
        Due.is("BELIEF 0", t.blame(0, 1), 3);
        Due.is("BELIEF below 0", t.blame(0, 2), NOT);
        Due.is("WORN", t.man(0, 3), 2);
        t.sunset();
        Due.is("WORN 2 the next DAY", t.blame(0, 0), NOT);
        t.sunset();
        Due.is("WORN 1 the DAY after", t.blame(0, 0), 3);
    }

    private static void far() {
        Due.about("9", "TWO MISHAPS are FAR, if their PLACES are more apart than their HOURS are.");
        for (int one = 0; one < 36; one++) {
            for (int other = 0; other < 36; other++) {
                int places = Math.abs(one / 6 - other / 6);
                int hours = Math.abs(one % 6 - other % 6);
                // at one HOUR he is NEAR what is two PLACES apart at the most
                if (hours > 0 || places <= 2) {
                    bothBlamed(one / 6, one % 6, other / 6, other % 6, places > hours);
                }
            }
        }
    }

    private static void bothBlamed(int place, int hour, int otherPlace, int otherHour, boolean isFar) {
        StringBuilder row = new StringBuilder("------");
        row.setCharAt(hour, (char) ('a' + place));
        row.setCharAt(otherHour, (char) ('a' + (hour == otherHour ? (place + otherPlace) / 2 : otherPlace)));
        String both = "x" + place + " " + hour + " 0 0 1 9;x" + otherPlace + " " + otherHour + " 0 0 1 9;";
        BlameTown t = of("a0 1;m0 0 4" + row + ";" + both);
        Due.is("the first of " + both, t.blame(0, 0), 4);
        Due.is("MAY " + both, t.may(1), isFar ? 0 : 1);
        Due.is("the other of " + both, t.blame(0, 1), isFar ? NOT : 4);
        t.clear(0, 0);
        Due.is("none is FAR any more " + both, t.may(1) + (t.mishap(1, 6) << 1), isFar ? 1 : 2);
    }

    private static void blameBounds() {
        Due.about("9", "BLAMED: RATE. UNKNOWN, NOT: he cannot be.");
        BlameTown t = of("a0 1;" + times(M, 6) + "m0 0 99aaaaaa;" + times(X, 4));
        Due.is("the last MAN, the last MISHAP", t.blame(6, 3), 99);
        Due.is("the last MAN, the first MISHAP", t.blame(6, 0), 99);
        Due.is("he is nowhere", t.blame(0, 1), NOT);
        Due.is("he is already", t.blame(6, 3), NOT);
        Due.is("no MAN", t.blame(7, 1), UNKNOWN);
        Due.is("no MAN below", t.blame(-1, 1), UNKNOWN);
        Due.is("no MISHAP", t.blame(6, 4), UNKNOWN);
        Due.is("no MISHAP below", t.blame(6, -1), UNKNOWN);
        Due.is("32 MEN on", t.blame(38, 1), UNKNOWN);
        Due.is("SPENT", t.told(7), 198);
    }

    private static void blamedPlace() {
        Due.about("9", "a MAN who FITS takes a place of a MISHAP that has one free,");
        for (int sharers = 1; sharers <= 2; sharers++) {
            BlameTown t = of("a0 1;" + times("m0 0 2aaaaaa;", 3) + "x0 0 0 0 " + sharers + " 9;");
            for (int m = 0; m < 3; m++) {
                Due.is("free ahead of " + m, t.told(8), Math.max(0, sharers - m));
                Due.is("MAN " + m + " of " + sharers, t.blame(m, 0), m < sharers ? 2 : NOT);
            }
            Due.is("none free", t.told(8), 0);
            Due.is("SPENT", t.told(7), 2 * sharers);
            t.clear(0, 0);
            Due.is("free again", t.blame(2, 0), 2);
        }
    }

    private static void blamedOnce() {
        Due.about("9", "is not BLAMED for it yet, nor for one that is FAR from it;");
        BlameTown t = of("a0 1;m0 0 2aaaaaa;m0 0 2bbbbbb;x0 0 0 0 2 9;x0 0 0 0 1 9;x1 0 0 0 1 9;");
        Due.is("once", t.blame(0, 0), 2);
        Due.is("not twice, with a place free", t.blame(0, 0), NOT);
        Due.is("for another at the same PLACE and HOUR", t.blame(0, 1), 2);
        Due.is("not for one beside at the same HOUR", t.blame(0, 2), NOT);
        Due.is("another MAN may", t.blame(1, 2), 2);
        t.clear(0, 0);
        t.clear(1, 2);
        Due.is("one that is FAR is enough", t.blame(0, 2), NOT);
        t.clear(0, 1);
        Due.is("none is", t.blame(0, 2), 2);
    }

    private static void blamedWorn() {
        Due.about("9", "he is WORN by 1 more then (9 at most); SPENT is RATE more.");
        BlameTown t = of("a0 1;m0 1 99aaaaaa;m0 0 1aaaaaa;" + times("x0 0 0 0 2 9;", 4));
        for (int x = 0; x < 4; x++) {
            Due.is("his RATE", t.blame(0, x), 99);
            Due.is("WORN", t.man(0, 3), x + 1);
            Due.is("SPENT", t.told(7), 99 * (x + 1));
        }
        Due.is("the other is not WORN", t.man(1, 3), 0);
        Due.is("the least RATE", t.blame(1, 0), 1);
        Due.is("SPENT", t.told(7), 397);
    }

    private static void cleared() {
        Due.about("10", "CLEARED: WORN then. UNKNOWN, NOT: he is not BLAMED for it.");
        BlameTown t = of("a0 1;m0 1 5aaaaaa;m0 1 6aaaaaa;x0 0 0 0 2 9;x0 0 0 0 1 9;");
        Due.is("not BLAMED for any", t.clear(0, 0), NOT);
        t.blame(0, 0);
        t.blame(0, 1);
        t.blame(1, 0);
        Due.is("another is BLAMED, not he", t.clear(1, 1), NOT);
        Due.is("WORN 2 to 1", t.clear(0, 1), 1);
        Due.is("WORN 1 to 0", t.clear(0, 0), 0);
        Due.is("not again", t.clear(0, 0), NOT);
        Due.is("0 still", t.man(0, 3), 0);
        Due.is("SPENT stays", t.told(7), 16);
        Due.is("the other stays", t.mishap(0, 6), 2);
        t.sunset();
        Due.is("not after SUNSET", t.clear(1, 0), NOT);
        Due.is("no MAN", t.clear(2, 0), UNKNOWN);
        Due.is("no MAN below", t.clear(-1, 0), UNKNOWN);
        Due.is("no MISHAP", t.clear(0, 2), UNKNOWN);
        Due.is("no MISHAP below", t.clear(0, -1), UNKNOWN);
        Due.is("32 MEN on", t.clear(32, 0), UNKNOWN);
    }

    private static void clearedWorn() {
        Due.about("10", "CLEARED: he gives it back; WORN 1 less (0 at least); SPENT stays.");
        BlameTown t = of("a0 1;m0 1 5aaaaaa;x0 0 0 0 1 9;x0 0 0 0 1 9;");
        Due.is("a place is taken", t.blame(0, 0) + t.told(8), 5 + 1);
        Due.is("WORN 0, and no less", t.clear(0, 0), 0);
        Due.is("the place is free", t.told(8), 2);
        Due.is("nobody is BLAMED", t.mishap(0, 6) + t.man(0, 4), 0);
        Due.is("SPENT", t.told(7), 5);
        for (int k = 2; k <= 10; k++) {
            t.blame(0, 0);
            Due.is("WORN 0 again", t.clear(0, 0), 0);
            Due.is("SPENT anew", t.told(7), 5 * k);
        }
        t.blame(0, 0);
        t.sunset();
        t.blame(0, 0);
        t.blame(0, 1);
        Due.is("WORN 3 to 2", t.clear(0, 0), 2);
        Due.is("WORN 2 to 1", t.clear(0, 1), 1);
        t.sunset();
        Due.is("a CLEARED one is not BLAMED: 1 less", t.man(0, 3), 0);
    }

    private static void walkBounds() {
        Due.about("11", "He WALKS to a PLACE at an HOUR: where he was (NONE). UNKNOWN, OUTSIDE.");
        BlameTown t = of("a0 1;m0 0 1-bcde-;" + M);
        Due.is("from nowhere, HOUR 0, PLACE 0", t.walk(0, 0, 0), NONE);
        Due.is("from nowhere, HOUR 5, PLACE 5", t.walk(0, 5, 5), NONE);
        Due.is("from PLACE 5 to 0", t.walk(0, 5, 0), 5);
        Due.is("from PLACE 0 to 5", t.walk(0, 0, 5), 0);
        Due.is("he is there", t.man(0, 5), 5);
        Due.is("he is there", t.man(0, 10), 0);
        for (int hour = 1; hour < 5; hour++) {
            Due.is("other HOURS stay", t.man(0, 5 + hour), hour);
        }
        for (int hour = 0; hour < 6; hour++) {
            Due.is("the other MAN stays", t.man(1, 5 + hour), NONE);
        }
        Due.is("HOUR -1", t.walk(0, -1, 0), OUTSIDE);
        Due.is("HOUR 6", t.walk(0, 6, 0), OUTSIDE);
        Due.is("PLACE -1", t.walk(0, 0, -1), OUTSIDE);
        Due.is("PLACE 6", t.walk(0, 0, 6), OUTSIDE);
        Due.is("no MAN", t.walk(2, 0, 0), UNKNOWN);
        Due.is("no MAN below", t.walk(-1, 0, 0), UNKNOWN);
        Due.is("the last MAN, HOUR, PLACE", t.walk(1, 5, 5), NONE);
        Due.is("five WALKS", t.told(11), 5);
    }

    private static void walkTheSame() {
        Due.about("11", "WALKS: at one HOUR he is at another PLACE (or the same one) till SUNSET");
        BlameTown t = of("a0 1;m0 0 1cccccc;");
        Due.is("the same one", t.walk(0, 3, 2), 2);
        Due.is("is a WALK, too", t.told(11), 1);
        Due.is("another", t.walk(0, 3, 4), 2);
        Due.is("he is there", t.man(0, 8), 4);
        Due.is("one HOUR alone", t.man(0, 7) + t.man(0, 9), 4);
        t.sunset();
        Due.is("till SUNSET", t.man(0, 8), 2);
    }

    private static void walkBlamed() {
        Due.about("11", "(BLAMED or not; what he is BLAMED for stays).");
        BlameTown t = of("a1 1;m0 0 1aaaaaa;" + X);
        t.blame(0, 0);
        Due.is("BLAMED he WALKS away", t.walk(0, 0, 5), 0);
        Due.is("and is BLAMED still", t.mishap(0, 6), 1);
        Due.is("WORN still", t.man(0, 3), 1);
        Due.is("no BELIEF", t.belief(0, 0), 0);
        Due.is("CLEARED all the same", t.clear(0, 0), 0);
        Due.is("not BLAMED again", t.blame(0, 0), NOT);
        t.walk(0, 0, 2);
        Due.is("not yet NEAR", t.blame(0, 0), NOT);
        t.walk(0, 0, 1);
        Due.is("NEAR", t.blame(0, 0), 1);
    }

    private static void sunsetPays() {
        Due.about("12", "THE MAYOR pays C for each place that is free (SPENT is so much more);");
        BlameTown most = of("a0 500;" + times("x0 0 0 0 2 9;", 4));
        Due.is("8 places, 500 each", most.sunset(), 4000);
        Due.is("SPENT", most.told(7), 4000);
        Due.is("again", most.sunset(), 4000);
        Due.is("SPENT", most.told(7), 8000);
        Due.is("one place, 1", of("a0 1;" + X).sunset(), 1);
        Due.is("no MISHAPS", of("a0 500;" + M).sunset(), 0);
        BlameTown half = of("a0 7;m0 0 1aaaaaa;m0 0 2aaaaaa;x0 0 0 0 2 9;");
        half.blame(0, 0);
        Due.is("half full", half.sunset(), 7);
        Due.is("SPENT with RATE", half.told(7), 8);
        half.blame(0, 0);
        half.blame(1, 0);
        Due.is("full", half.sunset(), 0);
        Due.is("SPENT with RATES", half.told(7), 11);
    }

    private static void sunsetWears() {
        Due.about("12", "nobody is BLAMED any more; WORN of who was BLAMED stays, of each other one it is 1 less (0 at least);");
        BlameTown t = of("a0 1;m0 1 1aaaaaa;m0 1 1aaaaaa;m0 1 1aaaaaa;x0 0 0 0 2 9;x0 0 0 0 1 9;");
        t.blame(0, 0);
        t.blame(0, 1);
        t.blame(1, 0);
        t.sunset();
        int[][] due = {{2, 1, 0}, {1, 0, 0}, {0, 0, 0}, {0, 0, 0}};
        for (int day = 0; day < due.length; day++) {
            for (int m = 0; m < 3; m++) {
                Due.is("WORN of " + m + " after " + day, t.man(m, 3), due[day][m]);
                Due.is("BLAMED for nothing", t.man(m, 4), 0);
            }
            Due.is("nobody BLAMED", t.mishap(0, 6) + t.mishap(1, 6), 0);
            t.sunset();
        }
    }

    private static void sunsetRows() {
        Due.about("12", "MEN are where their ROWS had them (WALKS are over); DAYS are counted.");
        BlameTown t = of("a0 1;m0 0 1-bcde-;m0 0 1f----a;");
        for (int m = 0; m < 2; m++) {
            for (int hour = 0; hour < 6; hour++) {
                t.walk(m, hour, 3);
            }
        }
        t.sunset();
        int[][] rows = {{NONE, 1, 2, 3, 4, NONE}, {5, NONE, NONE, NONE, NONE, 0}};
        for (int m = 0; m < 2; m++) {
            for (int hour = 0; hour < 6; hour++) {
                Due.is(m + " at " + hour, t.man(m, 5 + hour), rows[m][hour]);
            }
        }
        Due.is("one DAY", t.told(6), 1);
        t.sunset();
        Due.is("two DAYS", t.told(6), 2);
    }

    private static void sunsetRefused() {
        Due.about("12", "SUNSET: what THE MAYOR paid. NOT: no TOWN;");
        BlameTown t = new BlameTown();
        Due.is("no TOWN", t.sunset(), NOT);
        Due.is("no DAY", t.told(6), 0);
        Due.is("nothing to undo", t.told(11), 0);
        tell(t, "  ");
        t.town();
        Due.is("still none", t.sunset(), NOT);
        tell(t, A);
        Due.is("nor by a text that waits", t.sunset(), NOT);
        t.town();
        Due.is("a TOWN of nobody", t.sunset(), 0);
    }

    private static BlameTown after9000Days(String text) {
        BlameTown t = of(text);
        for (int k = 0; k < 450; k++) {
            t.drift(20);
        }
        return t;
    }

    private static void daysLimit() {
        Due.about("12", "FULL: DAYS are above 9000 (as it is called).");
        BlameTown t = after9000Days("a0 1;" + X);
        Due.is("9000 DAYS", t.told(6), 9000);
        Due.is("at 9000", t.sunset(), 1);
        Due.is("9001 DAYS", t.told(6), 9001);
        Due.is("above 9000", t.sunset(), FULL);
        Due.is("no DAY", t.told(6), 9001);
        Due.is("nothing SPENT", t.told(7), 9001);
        Due.is("nothing to undo more", t.told(11), 30);
        Due.is("UNDONE", t.undo(1), 9000);
        Due.is("at 9000 again", t.sunset(), 1);
        Due.is("above again", t.sunset(), FULL);
    }

    private static void driftLimit() {
        Due.about("13", "n DAYS BY DRAWS (1 .. 20): SPENT. OUTSIDE, NOT: no TOWN; FULL: DAYS are above 9000 (as it is called).");
        BlameTown t = after9000Days("a0 1;" + X);
        Due.is("20 more at 9000", t.drift(20), 9020);
        Due.is("9020 DAYS", t.told(6), 9020);
        Due.is("above 9000", t.drift(1), FULL);
        Due.is("no DAY", t.told(6), 9020);
        Due.is("nothing SPENT", t.told(7), 9020);
        Due.is("UNDONE", t.undo(19), 9001);
        Due.is("at 9001", t.drift(1), FULL);
        Due.is("UNDONE", t.undo(1), 9000);
        Due.is("at 9000", t.drift(1), 9001);
        Due.is("at 9001 again", t.drift(20), FULL);
    }

    private static void driftBounds() {
        Due.about("13", "n DAYS BY DRAWS (1 .. 20): SPENT. OUTSIDE, NOT: no TOWN;");
        BlameTown t = of("a0 3;" + X);
        Due.is("none", t.drift(0), OUTSIDE);
        Due.is("below", t.drift(-1), OUTSIDE);
        Due.is("far below", t.drift(Integer.MIN_VALUE), OUTSIDE);
        Due.is("above", t.drift(21), OUTSIDE);
        Due.is("far above", t.drift(Integer.MAX_VALUE), OUTSIDE);
        Due.is("no DAY so far", t.told(6), 0);
        Due.is("least", t.drift(1), 3);
        Due.is("one DAY", t.told(6), 1);
        Due.is("most", t.drift(20), 63);
        Due.is("21 DAYS", t.told(6), 21);
        Due.is("no DRAW: nobody MAY", t.seed(4), 0);
        BlameTown none = new BlameTown();
        none.seed(4);
        Due.is("no TOWN", none.drift(1), NOT);
        Due.is("no TOWN", none.drift(20), NOT);
        Due.is("no DRAW", none.seed(0), 4);
    }

    private static long drawn(long seed) {
        return (seed * 1103515245L + 12345L) % WRAP;
    }

    private static void seedWraps() {
        Due.about("13, 29", "each DRAW it becomes it times 1103515245 and 12345, left over by 2 to the 31;");
        BlameTown t = of("a0 9;m0 0 1aaaaaa;" + X);
        long[] seeds = {0, 1, 2, 65535, 65536, 1103515245L, 1L << 30, WRAP - 2, WRAP - 1};
        for (long seed : seeds) {
            t.seed((int) seed);
            t.drift(1);
            Due.is("after " + seed, t.seed(0), drawn(seed));
            t.sunset();
        }
        t.sunset();
        t.sunset();
        t.seed(12345);
        t.drift(3);
        Due.is("three DRAWS", t.seed(0), drawn(drawn(drawn(12345))));
        Due.is("0 becomes 12345", drawn(0), 12345);
    }

    private static void drawsRising() {
        Due.about("13", "the DRAW of n is it / 65536, left over by n): n DAYS: in each, MISHAP by MISHAP,");
        int[] rates = {1, 2, 3, 5, 8, 13, 21};
        StringBuilder text = new StringBuilder("a0 100;");
        for (int rate : rates) {
            text.append("m0 0 ").append(rate).append("aaaaaa;");
        }
        int drawnSet = 0;
        for (long seed = 0; seed < 60; seed++) {
            BlameTown t = of(text + X);
            t.seed((int) seed);
            int who = (int) (drawn(seed) / 65536 % 7);
            drawnSet |= 1 << who;
            Due.is("SPENT by " + seed, t.drift(1), rates[who]);
            Due.is("WORN by " + seed, t.man(who, 3), 1);
        }
        Due.is("each was drawn", drawnSet, 127);
        // the rising ones of those who MAY: 1, 3 and 6
        BlameTown few = of("a0 100;" + M + "m0 0 2aaaaaa;" + M + "m0 0 5aaaaaa;" + M + M + "m0 0 21aaaaaa;" + X);
        int[] rising = {1, 3, 6};
        for (long seed = 0; seed < 30; seed++) {
            few.seed((int) seed);
            few.drift(1);
            int who = rising[(int) (drawn(seed) / 65536 % 3)];
            for (int m : rising) {
                Due.is("WORN of " + m + " by " + seed, few.man(m, 3), m == who ? 1 : 0);
            }
            few.undo(1);
        }
    }

    private static void drawsWhileFree() {
        Due.about("13", "as long as it has places free and somebody MAY: a DRAW of those who MAY (rising) is BLAMED; then SUNSET.");
        BlameTown one = of("a0 50;m0 0 4aaaaaa;x0 0 0 0 2 9;");
        Due.is("one MAN for two places", one.drift(1), 54);
        Due.is("one DRAW", one.seed(0), 12345);
        BlameTown two = of("a0 50;m0 0 4aaaaaa;m0 0 4aaaaaa;x0 0 0 0 2 9;");
        Due.is("two MEN for two places", two.drift(1), 8);
        Due.is("two DRAWS", two.seed(0), drawn(12345));
        BlameTown three = of("a0 50;" + times("m0 0 4aaaaaa;", 3) + "x0 0 0 0 2 9;");
        Due.is("three MEN for two places", three.drift(1), 8);
        Due.is("two DRAWS", three.seed(0), drawn(12345));
        BlameTown begun = of("a0 50;" + times("m0 0 4aaaaaa;", 3) + "x0 0 0 0 2 9;");
        begun.blame(2, 0);
        Due.is("one was BLAMED ahead", begun.drift(1), 8);
        Due.is("one DRAW", begun.seed(0), 12345);
        BlameTown full = of("a0 50;m0 0 4aaaaaa;m0 0 4aaaaaa;" + X);
        full.blame(1, 0);
        Due.is("full ahead", full.drift(1), 4);
        Due.is("no DRAW", full.seed(0), 0);
        // the second MISHAP is FAR from the first: who is BLAMED for that MAY not
        BlameTown far = of("a0 50;m0 0 4aaaaaa;x0 0 0 0 1 9;x1 0 0 0 1 9;");
        Due.is("MISHAP by MISHAP", far.drift(1), 54);
        Due.is("one DRAW", far.seed(0), 12345);
    }

    private static void driftDays() {
        Due.about("13, 14", "SUNSETS (BY DRAWS: each DAY as one)");
        BlameTown t = of("a0 1;m0 0 4aaaaaa;m0 0 4aaaaaa;x0 0 0 0 2 9;");
        t.drift(20);
        Due.is("20 DAYS are 20", t.told(11), 20);
        Due.is("one back", t.undo(1), 19);
        Due.is("nobody is BLAMED", t.mishap(0, 6), 0);
        Due.is("all but one back", t.undo(18), 1);
        Due.is("SPENT of one DAY", t.told(7), 8);
        Due.is("WORN of one DAY", t.man(0, 3) + t.man(1, 3), 2);
        Due.is("the first", t.undo(1), 0);
        Due.is("nothing SPENT", t.told(7), 0);
        Due.is("not WORN", t.man(0, 3) + t.man(1, 3), 0);
    }

    private static void undoBounds() {
        Due.about("14", "The n latest (1 .. 30) are undone: DAYS. OUTSIDE, NOT: not so many.");
        BlameTown t = of("a0 1;m0 0 1aaaaaa;");
        Due.is("nothing to undo", t.undo(1), NOT);
        Due.is("nothing to undo", t.undo(30), NOT);
        for (int k = 0; k < 29; k++) {
            t.sunset();
        }
        Due.is("none", t.undo(0), OUTSIDE);
        Due.is("below", t.undo(-1), OUTSIDE);
        Due.is("far below", t.undo(Integer.MIN_VALUE), OUTSIDE);
        Due.is("above", t.undo(31), OUTSIDE);
        Due.is("far above", t.undo(Integer.MAX_VALUE), OUTSIDE);
        Due.is("one more than there are", t.undo(30), NOT);
        Due.is("nothing was undone", t.told(6), 29);
        Due.is("as many as there are", t.undo(29), 0);
        Due.is("none left", t.undo(1), NOT);
        t.sunset();
        Due.is("two, of one", t.undo(2), NOT);
        Due.is("one, of one", t.undo(1), 0);
    }

    private static void undoMost() {
        Due.about("14", "since the text or IMAGE (30 at most are kept);");
        for (int deeds : new int[] {29, 30, 31, 59, 60, 61, 75}) {
            BlameTown t = of("a0 1;m0 0 1aaaaaa;");
            for (int k = 0; k < deeds; k++) {
                t.sunset();
            }
            int kept = Math.min(30, deeds);
            Due.is("kept of " + deeds, t.told(11), kept);
            if (deeds > 30) {
                Due.is("31 are too many", t.undo(31), OUTSIDE);
            }
            for (int k = 1; k <= kept; k++) {
                Due.is(k + " of " + deeds, t.undo(1), deeds - k);
            }
            Due.is("no more of " + deeds, t.undo(1), NOT);
            Due.is("nothing changed", t.told(6), deeds - kept);
        }
        BlameTown t = of("a0 1;m0 0 1aaaaaa;");
        for (int round = 0; round < 7; round++) {
            for (int k = 0; k < 30; k++) {
                t.walk(0, k % 6, (k + round) % 5);
            }
            Due.is("30 at once", t.undo(30), 0);
            for (int hour = 0; hour < 6; hour++) {
                Due.is("where he was", t.man(0, 5 + hour), 0);
            }
            t.walk(0, 0, 1);
            Due.is("one from the front", t.undo(1), 0);
        }
    }

    private static void undoDays() {
        Due.about("14", "(30 at most are kept)");
        BlameTown t = of("a0 1;" + X);
        t.drift(20);
        t.drift(20);
        Due.is("30 of 40", t.told(11), 30);
        Due.is("back to 10", t.undo(30), 10);
        Due.is("SPENT", t.told(7), 10);
        Due.is("no more", t.undo(1), NOT);
    }

    private static void undoSeed() {
        Due.about("14", "THE SEED stays.");
        BlameTown t = of("a0 1;m0 0 1aaaaaa;" + X);
        t.drift(1);
        t.undo(1);
        Due.is("as the DRAW left it", t.seed(7), 12345);
        t.sunset();
        t.undo(1);
        Due.is("as it was set", t.seed(7), 7);
        Due.is("setting it is no deed", t.told(11), 0);
    }

    private static void undoSince() {
        Due.about("14, 30, 31", "the latest BLAMED, CLEARED, WALKS, SUNSETS (BY DRAWS: each DAY as one) since the text or IMAGE");
        BlameTown t = of("a0 1;m0 0 1aaaaaa;" + X);
        t.sunset();
        t.keep(0);
        Due.is("since keep", t.undo(1), NOT);
        t.sunset();
        t.sunset();
        t.goBack(0);
        Due.is("since goBack", t.undo(1), NOT);
        Due.is("it is as it was", t.told(6), 1);
        t.sunset();
        tell(t, "a0 1;");
        t.town();
        Due.is("since the text", t.undo(1), NOT);
        t.sunset();
        tell(t, "b");
        t.town();
        Due.is("a faulty one is none", t.undo(1), 0);
    }

    private static void undoWhole() {
        Due.about("14", "UNDONE: the latest BLAMED, CLEARED, WALKS, SUNSETS");
        BlameTown t = Twins.plain();
        t.blame(0, 0);
        t.walk(1, 1, 3);
        t.blame(1, 1);
        t.clear(0, 0);
        t.sunset();
        // what is no deed: refused ones, what is tried, seen, written, fed
        t.blame(0, 1);
        t.clear(0, 0);
        t.walk(0, 0, 6);
        t.undo(9);
        t.see(0, 0, 0);
        t.write(0, 0);
        t.seed(3);
        t.shared(NONE);
        t.feed('a');
        Due.is("five deeds", t.told(11), 5);
        Due.is("SUNSET", t.undo(1), 0);
        Due.is("the WALK", t.man(1, 6), 3);
        Due.is("BLAMED", t.mishap(1, 6), 2);
        Due.is("SPENT", t.told(7), 11);
        Due.is("CLEARED", t.undo(1), 0);
        Due.is("BLAMED again", t.mishap(0, 6), 1);
        Due.is("WORN again", t.man(0, 3), 1);
        Due.is("BLAMED", t.undo(1), 0);
        Due.is("nobody", t.mishap(1, 6), 0);
        Due.is("not WORN", t.man(1, 3), 0);
        Due.is("SPENT is less", t.told(7), 5);
        Due.is("WALK", t.undo(1), 0);
        Due.is("where he was", t.man(1, 6), 1);
        Due.is("BLAMED", t.undo(1), 0);
        Due.is("nothing SPENT", t.told(7), 0);
        Due.is("SEEN stays", t.told(9), 1);
        Due.is("THE BOOK stays", t.told(10), 1);
        Due.is("THE TEXT stays", t.told(5), 1);
        Due.is("THE SEED stays", t.seed(0), 3);
    }
}
