import java.util.ArrayList;
import java.util.List;
import java.util.function.ToIntFunction;

/** The edges of section 1 of the document's terms, and of promises 1 to 5: the text, and what is told by it. */
public final class TextEdgesTest extends Towns {
    private static final String A = "a0 1;";
    private static final String M = "m0 0 1------;";
    private static final String X = "x0 0 0 0 1 9;";
    private static final String FULLEST = "a6 500;m15 63 99abcdef;x5 5 15 5 2 9;";

    public static void main(String[] args) {
        noTown();
        letters();
        mostLetters();
        juryClause();
        juryOnceAndFirst();
        manClause();
        rowClause();
        mostMen();
        mishapClause();
        mostMishaps();
        sharers();
        origins();
        figures();
        words();
        rowsStandTogether();
        blanksAnywhere();
        blanksAre32();
        numbersNeedOne();
        firstFault();
        leastFault();
        faultAtTheEnd();
        noWord();
        wordAheadOfJury();
        lettersOfRows();
        fourFigures();
        wrapsRound();
        originsAtFirst();
        oneTooMany();
        emptyText();
        textIsUsedUp();
        townBegins();
        smallerTown();
        papersOfTown();
        imagesOfTown();
        howManyMen();
        faultyTown();
        faultLetter();
        toldBounds();
        toldAtMost();
        Due.end();
    }

    private static void noTown() {
        Due.about("1", "`BlameTown()`: No TOWN.");
        BlameTown t = new BlameTown();
        for (int what = 0; what <= 11; what++) {
            Due.is("told " + what, t.told(what), 0);
        }
        Due.is("fault", t.fault(), NONE);
        Due.is("no MAN", t.man(0, 0), UNKNOWN);
        Due.is("no MISHAP", t.mishap(0, 0), UNKNOWN);
        Due.is("nobody IDLE", t.idle(), 0);
        Due.is("no ORPHANS", t.orphans(), 0);
        Due.is("nothing SHARED", t.shared(NONE), 0);
        Due.is("nothing WRONG", t.judge(), NONE);
        Due.is("QUIET", t.quiet(60, 100), 1000000000);
        Due.is("nothing kept", t.goBack(0), NOT);
        Due.is("SUNSET", t.sunset(), NOT);
        Due.is("drift", t.drift(1), NOT);
        Due.is("undo", t.undo(1), NOT);
    }

    private static void letters() {
        Due.about("2", "A letter (0 .. 255) comes behind THE TEXT: how many it has. OUTSIDE,");
        BlameTown t = new BlameTown();
        Due.is("the first that is refused below", t.feed(-1), OUTSIDE);
        Due.is("the first that is refused above", t.feed(256), OUTSIDE);
        Due.is("far below", t.feed(Integer.MIN_VALUE), OUTSIDE);
        Due.is("far above", t.feed(Integer.MAX_VALUE), OUTSIDE);
        Due.is("256 more than a letter", t.feed(256 + 'a'), OUTSIDE);
        Due.is("none is in the text", t.told(5), 0);
        Due.is("the last below", t.feed(0), 1);
        Due.is("the last above", t.feed(255), 2);
        Due.is("two are in the text", t.told(5), 2);
    }

    private static void mostLetters() {
        Due.about("2, 3", "(230 letters at most)");
        BlameTown t = new BlameTown();
        tell(t, "a1 7;" + times(" ", 211) + "m0 0 1------");
        Due.is("228 letters", t.told(5), 228);
        Due.is("the 229th", t.feed(' '), 229);
        Due.is("the 230th", t.feed(';'), 230);
        Due.is("the 231st", t.feed('b'), FULL);
        Due.is("it is not in the text", t.told(5), 230);
        Due.is("the 230 are read whole", t.town(), 1);
        Due.is("no fault", t.fault(), NONE);
        Due.is("empty again", t.feed('a'), 1);
        stands(times(" ", 230), 0, 0);
        faulty(times(" ", 229) + "b", 229, 1);
        faulty("a1 7" + times(" ", 226), 230, 1);
        faulty(A + times(" ", 224) + "m", 230, 1);
    }

    /** The least and the greatest are taken and read; one less and one more are refused at the first figure. */
    private static void bounds(String before, String after, int least, int most, ToIntFunction<BlameTown> read) {
        for (int value : new int[] {least, most}) {
            BlameTown t = of(before + value + after);
            Due.is("read of " + before + value + after, read.applyAsInt(t), value);
        }
        faulty(before + "^" + (most + 1) + after, 2);
        faulty(before + "^999" + after, 2);
        if (least > 0) {
            faulty(before + "^" + (least - 1) + after, 2);
        }
        faulty(before + "^-1" + after, 1);
        faulty(before + "^;", 1);
    }

    private static void juryClause() {
        Due.about("3, 4, 5", "'a' B C ';' (THE JURY believes from B on, 0 .. 6; THE MAYOR pays C for each place "
                + "that is not filled, 1 .. 500;");
        bounds("a", " 1;", 0, 6, t -> t.told(1));
        bounds("a0 ", ";", 1, 500, t -> t.told(2));
        faulty("a0 1^", 1);
        faulty("a0 1^m", 1);
    }

    private static void juryOnceAndFirst() {
        Due.about("3, 4", "first, once)");
        stands(A, 0, 0);
        stands("  " + A, 0, 0);
        faulty("^" + M + A, 1);
        faulty("^" + X + A, 1);
        faulty(A + "^" + A, 3);
        faulty(A + M + X + " ^" + A, 3);
    }

    private static void manClause() {
        Due.about("3, 4, 6", "POWERS P 0 .. 15, a SET of 0 to 3; HATES H 0 .. 63, a SET of VICTIMS 0 to 5; RATE R 1 .. 99;");
        bounds(A + "m", " 0 1------;", 0, 15, t -> t.man(0, 0));
        bounds(A + "m0 ", " 1------;", 0, 63, t -> t.man(0, 1));
        bounds(A + "m0 0 ", "abcdef;", 1, 99, t -> t.man(0, 2));
        bounds(A + times(M, 6) + "m0 0 ", "abcdef;", 1, 99, t -> t.man(6, 2));
    }

    private static void rowClause() {
        Due.about("3, 4, 6", "ROW: 6 letters: where he is at HOURS 0 to 5: PLACES a to f, 0 to 5 in a row; - nowhere)");
        BlameTown t = of(A + "m0 0 1abcdef;m0 0 1fedcba;m0 0 1-a-f--;");
        for (int hour = 0; hour < 6; hour++) {
            Due.is("rising, at " + hour, t.man(0, 5 + hour), hour);
            Due.is("falling, at " + hour, t.man(1, 5 + hour), 5 - hour);
            Due.is("nowhere but twice, at " + hour, t.man(2, 5 + hour), hour == 1 ? 0 : hour == 3 ? 5 : NONE);
        }
        faulty(A + "m0 0 1^;", 1);
        faulty(A + "m0 0 1abcde^;", 1);
        faulty(A + "m0 0 1abcdef^f;", 1);
        faulty(A + "m0 0 1abcdef^-;", 1);
        faulty(A + "m0 0 1------^m", 1);
    }

    private static void mostMen() {
        Due.about("3, 4", "'m' P H R ROW ';' (7 MEN at most:");
        stands(A + M, 1, 0);
        stands(A + times(M, 6), 6, 0);
        stands(A + times(M, 7), 7, 0);
        faulty(A + times(M, 7) + "^" + M, 3);
        stands(A + times(M, 7) + times(X, 4), 7, 4);
    }

    private static void mishapClause() {
        Due.about("3, 4, 7", "at PLACE L 0 .. 5, HOUR T 0 .. 5; needs POWERS N 0 .. 15; of VICTIM V 0 .. 5;");
        bounds(A + "x", " 0 0 0 1 9;", 0, 5, t -> t.mishap(0, 0));
        bounds(A + "x0 ", " 0 0 1 9;", 0, 5, t -> t.mishap(0, 1));
        bounds(A + "x0 0 ", " 0 1 9;", 0, 15, t -> t.mishap(0, 2));
        bounds(A + "x0 0 0 ", " 1 9;", 0, 5, t -> t.mishap(0, 3));
        bounds(A + times(X, 3) + "x0 0 0 ", " 1 9;", 0, 5, t -> t.mishap(3, 3));
    }

    private static void sharers() {
        Due.about("3, 4, 7", "Z MEN must share it, 1 or 2;");
        bounds(A + "x0 0 0 0 ", " 9;", 1, 2, t -> t.mishap(0, 4));
    }

    private static void mostMishaps() {
        Due.about("3, 4", "'x' L T N V Z J ';' (4 MISHAPS at most:");
        stands(A + X, 0, 1);
        stands(A + times(X, 3), 0, 3);
        stands(A + times(X, 4), 0, 4);
        faulty(A + times(X, 4) + "^" + X, 3);
        faulty(A + "x0 0 0 0 1 9^x", 1);
        stands(A + times(X, 4) + times(M, 7), 7, 4);
    }

    private static void origins() {
        Due.about("3, 4, 7", "it comes from MISHAP J told ahead, or 9: from none).");
        BlameTown t = of(A + X + "x0 0 0 0 1 0;x0 0 0 0 1 1;x0 0 0 0 1 2;");
        Due.is("from none", t.mishap(0, 5), NONE);
        Due.is("from the first", t.mishap(1, 5), 0);
        Due.is("from the second", t.mishap(2, 5), 1);
        Due.is("from the third", t.mishap(3, 5), 2);
        BlameTown alone = of(A + times(X, 4));
        for (int x = 0; x < 4; x++) {
            Due.is("9 for " + x, alone.mishap(x, 5), NONE);
        }
        for (int told = 0; told < 4; told++) {
            faulty(A + times(X, told) + "x0 0 0 0 1 ^" + told + ";", 2);
            if (told > 0) {
                stands(A + times(X, told) + "x0 0 0 0 1 " + (told - 1) + ";", 0, told + 1);
            }
        }
    }

    private static void figures() {
        Due.about("3, 4", "NUMBERS have one to three figures;");
        BlameTown t = of("a006 001;m015 063 099------;x005 005 015 005 002 009;");
        Due.is("006", t.told(1), 6);
        Due.is("001", t.told(2), 1);
        Due.is("015", t.man(0, 0), 15);
        Due.is("063", t.man(0, 1), 63);
        Due.is("099", t.man(0, 2), 99);
        int[] due = {5, 5, 15, 5, 2, NONE};
        for (int what = 0; what < due.length; what++) {
            Due.is("three figures of mishap " + what, t.mishap(0, what), due[what]);
        }
        Due.is("two figures", of("a06 01;").told(1), 6);
        stands("a000 500;", 0, 0);
        faulty("a^0000 1;", 2);
        faulty("a^;", 1);
    }

    private static void words() {
        Due.about("3, 4", "a word is one letter;");
        faulty("a^a0 1;", 1);
        faulty(A + "m^m0 0 1------;", 1);
        faulty(A + "x^x0 0 0 0 1 9;", 1);
        faulty(A + "m^an0 0 1------;", 1);
    }

    private static void rowsStandTogether() {
        Due.about("3, 4", "letters of a ROW stand side by side;");
        for (int k = 1; k < 6; k++) {
            faulty(A + "m0 0 1 " + "abcdef".substring(0, k) + "^ " + "abcdef".substring(k) + ";", 1);
        }
        stands(A + "m0 0 1 abcdef ;", 1, 0);
    }

    private static void blanksAnywhere() {
        Due.about("3, 4", "blanks (32) may stand anywhere but within NUMBERS, ROWS;");
        String text = "a0 1;m0 0 1abcdef;x0 0 0 0 1 9;";
        int row = text.indexOf("abcdef");
        for (int at = 0; at <= text.length(); at++) {
            boolean isInRow = at > row && at < row + 6;
            String blanked = text.substring(0, at) + "  " + text.substring(at);
            if (isInRow) {
                faulty(blanked, at, 1);
            } else {
                stands(blanked, 1, 1);
            }
        }
        stands("  a  0  1  ;  m  0  0  1  abcdef  ;  x  0  0  0  0  1  9  ;  ", 1, 1);
        Due.is("a blank ends a NUMBER", of("a6 500;").told(2), 500);
        faulty("a6 5 ^00;", 1);
        faulty("a6 50 ^0;", 1);
        faulty(A + "x0 0 0 0 1 9 ^9;", 1);
    }

    private static void blanksAre32() {
        Due.about("3, 4", "blanks (32)");
        for (char letter : new char[] {0, 9, 10, 13, 31, 33, 127, 160, 255}) {
            faulty("" + letter, 0, 1);
            faulty("a" + letter + "0 1;", 1, 1);
            faulty("a0" + letter + "1;", 2, 1);
            faulty("a0 1" + letter + ";", 4, 1);
            faulty(A + letter, 5, 1);
            faulty(A + "m0 0 1" + letter + "abcdef;", 11, 1);
        }
    }

    private static void numbersNeedOne() {
        Due.about("3, 4", "two NUMBERS side by side need one.");
        stands("a0 1;", 0, 0);
        faulty("a01^;", 1);
        faulty("a^0001;", 2);
        faulty("a^61;", 2);
        stands(A + "m0 0 1------;", 1, 0);
        stands(A + "m 0 0 1 ------;", 1, 0);
        faulty(A + "m00 1^------;", 1);
    }

    private static void firstFault() {
        Due.about("3, 4", "FAULTS, at the first letter that has one");
        faulty("a^7 1;b", 2);
        faulty("a^7 0;", 2);
        faulty("a0 ^0 1;", 2);
        faulty(A + "^" + A + "b", 3);
        faulty(A + "^b" + A, 1);
        faulty(A + "m0 ^64 0------;", 2);
        faulty(A + "m0 0 1------^------;", 1);
        faulty(A + "x0 ^6 0 0 3 8;", 2);
        faulty(A + times(X, 4) + "^x9 9 99 9 9 8;", 3);
        faulty(A + times(M, 7) + "^m99 99 0gggggg;", 3);
        faulty(A + "^a7 0;", 3);
    }

    private static void leastFault() {
        Due.about("3, 4", "of these the least:");
        faulty("a0 1 ^1234;", 1);
        faulty(A + "m0 0 1 ^1234;", 1);
        faulty("a0 1^a0 1;", 1);
        faulty("a0 ^a", 1);
        faulty(A + times(M, 6) + "m0 0 1------^" + M, 1);
        faulty(A + times(X, 3) + "x0 0 0 0 1 9^" + X, 1);
        faulty("^1234", 1);
    }

    private static void faultAtTheEnd() {
        Due.about("3, 4", "(the end at the text's length)");
        int row = FULLEST.indexOf("abcdef");
        for (int length = 1; length < FULLEST.length(); length++) {
            String text = FULLEST.substring(0, length);
            boolean isWhole = text.endsWith(";");
            if (isWhole) {
                continue;
            }
            faulty(text, length, 1);
            boolean isInRow = length > row && length < row + 6;
            faulty(text + "  ", isInRow ? length : length + 2, 1);
        }
        stands(FULLEST, 1, 1);
    }

    private static void noWord() {
        Due.about("3, 4", "1 it cannot stand there (a letter that is no word,");
        for (char letter = 0; letter < 256; letter++) {
            if ("amx ".indexOf(letter) < 0) {
                faulty("" + letter, 0, 1);
                faulty(A + letter + M, 5, 1);
            }
        }
        faulty(A + "^A0 1;", 1);
        faulty(A + "^M0 0 1------;", 1);
    }

    private static void wordAheadOfJury() {
        Due.about("3, 4", "another word first than 'a';");
        faulty("^m", 1);
        faulty("^x", 1);
        faulty("  ^m0 0 1------;" + A, 1);
        faulty("^" + times(M, 8), 1);
        faulty("^" + times(X, 5), 1);
    }

    private static void lettersOfRows() {
        Due.about("3, 4", "another letter in a ROW, too few of them: at what is there).");
        String before = A + "m0 0 1";
        for (int hour = 0; hour < 6; hour++) {
            for (char letter = 0; letter < 256; letter++) {
                boolean isFigureOrBlank = letter == ' ' || letter >= '0' && letter <= '9';
                boolean isPlace = "-abcdef".indexOf(letter) >= 0;
                String text = before + "abcdef".substring(0, hour) + letter + "abcdef".substring(hour + 1) + ";";
                if (isPlace) {
                    Due.is("at " + hour + " " + letter, of(text).man(0, 5 + hour), letter == '-' ? NONE : letter - 'a');
                } else if (hour > 0 || !isFigureOrBlank) {
                    faulty(text, before.length() + hour, 1);
                }
            }
            faulty(before + "abcdef".substring(0, hour) + "^;", 1);
            faulty(before + "abcdef".substring(0, hour) + "^", 1);
        }
    }

    private static void fourFigures() {
        Due.about("3, 4", "2 a NUMBER of four figures or more, or out of its bounds;");
        String[] ahead = {"a", "a0 ", A + "m", A + "m0 ", A + "m0 0 ", A + "x", A + "x0 ", A + "x0 0 ", A + "x0 0 0 ",
            A + "x0 0 0 0 ", A + "x0 0 0 0 1 "};
        for (String before : ahead) {
            faulty(before + "^0001", 2);
            faulty(before + "^00001;", 2);
            faulty(before + "^1000 ", 2);
            faulty(before + "^999", 2);
            faulty(before + "^9999b", 2);
        }
    }

    private static void wrapsRound() {
        Due.about("3, 4", "a NUMBER of four figures or more");
        // each is 1 again, if its figures are counted in 32 or 64 bits, or by hundreds and thousands
        for (String number : new String[] {"4294967297", "18446744073709551617", "1001", "65537", "2147483649"}) {
            faulty("a^" + number + " 1;", 2);
            faulty("a0 ^" + number + ";", 2);
        }
        faulty("a^257 1;", 2);
        faulty("a" + times("1", 229), 1, 2);
        faulty("a" + times("0", 229), 1, 2);
    }

    private static void originsAtFirst() {
        Due.about("3, 4", "a J that is neither told yet nor 9 (at its first).");
        for (int told = 0; told < 4; told++) {
            for (int from = 0; from <= 11; from++) {
                String text = A + times(X, told) + "x0 0 0 0 1 ";
                if (from < told || from == 9) {
                    stands(text + from + ";", 0, told + 1);
                } else {
                    faulty(text + "^" + from + ";", 2);
                }
            }
        }
        faulty(A + "x0 0 0 0 1 ^000;", 2);
        faulty(A + "x0 0 0 0 1 ^0b", 2);
        stands(A + "x0 0 0 0 1 009;x0 0 0 0 1 000;", 0, 2);
    }

    private static void oneTooMany() {
        Due.about("3, 4", "3 'a' again, an eighth 'm', a fifth 'x' (at it).");
        faulty(A + "^a", 3);
        faulty(A + "  ^a", 3);
        faulty(A + times(M, 7) + "^m", 3);
        faulty(A + times(M, 3) + X + times(M, 4) + "  ^m", 3);
        faulty(A + times(X, 4) + "^x", 3);
        faulty(A + times(X, 2) + M + times(X, 2) + "  ^x", 3);
        stands(A + times(M, 3) + X + times(M, 4), 7, 1);
        stands(A + times(X, 2) + M + times(X, 2), 1, 4);
    }

    private static void emptyText() {
        Due.about("3, 4, 5", "An empty text (or of blanks alone): no TOWN.");
        for (String text : new String[] {"", " ", times(" ", 230)}) {
            BlameTown t = Twins.plain();
            t.blame(0, 0);
            t.see(0, 0, 0);
            t.write(0, 0);
            t.keep(0);
            t.sunset();
            tell(t, text);
            Due.is("no MEN", t.town(), 0);
            Due.is("no FAULT", t.fault(), NONE);
            for (int what = 0; what <= 11; what++) {
                Due.is("told " + what, t.told(what), 0);
            }
            Due.is("no MAN", t.man(0, 0), UNKNOWN);
            Due.is("no MISHAP", t.mishap(0, 0), UNKNOWN);
            Due.is("no IMAGE", t.goBack(0), NOT);
            Due.is("SUNSET", t.sunset(), NOT);
            Due.is("drift", t.drift(1), NOT);
            Due.is("undo", t.undo(1), NOT);
        }
        Due.is("a jury alone is a TOWN", of(A).told(0), 1);
    }

    private static void textIsUsedUp() {
        Due.about("3", "THE TEXT (it is empty then, with a FAULT, too)");
        BlameTown t = new BlameTown();
        tell(t, A + M);
        Due.is("good", t.town(), 1);
        Due.is("empty", t.told(5), 0);
        tell(t, "a0 1");
        Due.is("faulty", t.town(), -11);
        Due.is("empty, too", t.told(5), 0);
        Due.is("the first letter again", t.feed(';'), 1);
        Due.is("nothing of the earlier one is left", t.town(), -11);
        Due.is("at the front", t.fault(), 0);
        tell(t, times("b", 230));
        t.town();
        Due.is("from a full text, too", t.feed('a'), 1);
    }

    private static void townBegins() {
        Due.about("3", "(DAY 0, nobody BLAMED, WORN, nothing SPENT;");
        BlameTown t = Twins.rich();
        t.sunset();
        t.blame(0, 0);
        t.blame(1, 1);
        t.walk(0, 0, 5);
        t.town();
        tell(t, "a1 100;m1 0 5aaaaaa;m1 0 6bbbbbb;x0 1 1 0 1 9;x2 1 1 1 2 0;");
        Due.is("MEN", t.town(), 2);
        Due.is("DAY", t.told(6), 0);
        Due.is("SPENT", t.told(7), 0);
        Due.is("free", t.told(8), 3);
        for (int m = 0; m < 2; m++) {
            Due.is("BLAMED " + m, t.mishap(m, 6), 0);
            Due.is("for none " + m, t.man(m, 4), 0);
            Due.is("WORN " + m, t.man(m, 3), 0);
            Due.is("no WALK " + m, t.man(m, 5), m);
        }
        Due.is("all IDLE", t.idle(), 3);
    }

    /** Of a fuller TOWN told earlier, or of a fuller text with a FAULT, nothing is left in a smaller one. */
    private static void smallerTown() {
        Due.about("3", "becomes THE TOWN");
        String[] fuller = {"a0 500;" + times("m15 63 1cccccc;", 7) + times("x2 0 0 0 2 9;", 4),
            "a0 500;" + times("m15 63 1cccccc;", 7) + times("x2 0 0 0 2 9;", 4) + "x"};
        for (int men = 0; men <= 2; men++) {
            for (int mishaps = 0; mishaps <= 2; mishaps++) {
                String smaller = "a1 7;" + times("m3 1 5cccccc;", men) + times("x2 1 1 0 1 9;", mishaps);
                for (String text : fuller) {
                    Due.that(smaller + " after " + text, drifted(after(text, smaller)).equals(drifted(of(smaller))));
                    Twins.same(smaller + " after " + text, after(text, smaller), of(smaller));
                }
            }
        }
    }

    private static BlameTown after(String text, String smaller) {
        BlameTown t = new BlameTown();
        tell(t, text);
        if (t.town() >= 0) {
            t.drift(1);
            t.blame(0, 3);
            t.keep(0);
        }
        t.seed(0);
        tell(t, smaller);
        t.town();
        return t;
    }

    private static List<Integer> drifted(BlameTown t) {
        List<Integer> all = new ArrayList<>();
        for (int n = 1; n <= 3; n++) {
            all.add(t.drift(n));
            all.add(t.sunset());
            for (int m = 0; m < 7; m++) {
                all.add(t.man(m, 3));
                all.add(t.man(m, 4));
            }
        }
        all.addAll(Twins.asked(t));
        return all;
    }

    private static void papersOfTown() {
        Due.about("3", "nothing SEEN, no BOOK;");
        BlameTown t = Twins.rich();
        t.town();
        Due.is("SEEN", t.told(9), 0);
        Due.is("THE BOOK", t.told(10), 0);
        Due.is("nothing to tear", t.tear(), 0);
        Due.is("nothing WRONG", t.judge(), NONE);
    }

    private static void imagesOfTown() {
        Due.about("3", "IMAGES, what could be undone are gone; THE SEED stays)");
        BlameTown t = Twins.rich();
        Due.is("a TOWN of no MEN", t.town(), 0);
        Due.is("undone", t.told(11), 0);
        Due.is("undo", t.undo(1), NOT);
        Due.is("IMAGE 0", t.goBack(0), NOT);
        Due.is("IMAGE 1", t.goBack(1), NOT);
        Due.is("THE SEED", t.seed(0), 79);
    }

    private static void howManyMen() {
        Due.about("3", "how many MEN; -10 less the number of its FAULT");
        for (int men = 0; men <= 7; men++) {
            stands(A + times(M, men), men, 0);
        }
        faulty("^b", 1);
        faulty("a^7", 2);
        faulty(A + "^a", 3);
    }

    private static BlameTown lived() {
        BlameTown t = Twins.plain();
        t.seed(9);
        t.keep(1);
        t.blame(0, 0);
        t.walk(1, 5, 0);
        t.see(1, 0, 0);
        t.write(1, 1);
        t.seed(10);
        return t;
    }

    private static void faultyTown() {
        Due.about("3, 4", "-10 less the number of its FAULT (all else is as it was).");
        for (String text : new String[] {"b", "a3 50;m0 0 9ffffff;x5 5 5 5 2 9;q", "a9", A + A, A + M + "x", "m"}) {
            BlameTown faulty = lived();
            tell(faulty, text);
            Due.that(text + " is faulty", faulty.town() <= -11);
            Twins.sameButFault("after " + text, faulty, lived());
        }
        BlameTown t = lived();
        tell(t, "b");
        Due.is("faulty", t.town(), -11);
        int[] due = {1, 1, 100, 2, 2, 0, 0, 5, 2, 1, 1, 2};
        for (int what = 0; what < due.length; what++) {
            Due.is("told " + what, t.told(what), due[what]);
        }
        Due.is("THE SEED", t.seed(10), 10);
        Due.is("BLAMED", t.mishap(0, 6), 1);
        Due.is("the WALK", t.man(1, 10), 0);
        Due.is("UNDONE", t.undo(1), 0);
        Due.is("the IMAGE", t.goBack(1), 1);
    }

    private static void faultLetter() {
        Due.about("4", "The letter of the FAULT of the latest town(); NONE.");
        BlameTown t = new BlameTown();
        Due.is("none at first", t.fault(), NONE);
        tell(t, "b");
        Due.is("none by feeding", t.fault(), NONE);
        t.town();
        Due.is("the first letter", t.fault(), 0);
        tell(t, "a0 1;");
        Due.is("still", t.fault(), 0);
        t.town();
        Due.is("none by a good one", t.fault(), NONE);
        tell(t, times(" ", 229) + "a");
        t.town();
        Due.is("the end of the longest", t.fault(), 230);
        t.town();
        Due.is("none by an empty one", t.fault(), NONE);
    }

    private static void toldBounds() {
        Due.about("5", "11 how many can be undone. OUTSIDE.");
        BlameTown t = Twins.rich();
        int[] due = {1, 1, 100, 2, 2, 5, 0, 11, 1, 1, 2, 2};
        for (int what = 0; what < due.length; what++) {
            Due.is("told " + what, t.told(what), due[what]);
        }
        for (int what : new int[] {-1, 12, 32, 256, Integer.MIN_VALUE, Integer.MAX_VALUE}) {
            Due.is("told " + what, t.told(what), OUTSIDE);
        }
    }

    private static void toldAtMost() {
        Due.about("5", "1 there is a TOWN, 0 not, 1 B, 2 C, 3 MEN, 4 MISHAPS, 5 letters of THE TEXT, 6 DAYS, 7 SPENT, "
                + "8 places that are free, 9 what was SEEN, 10 entries of THE BOOK,");
        BlameTown t = of("a6 500;" + times(M, 7) + times("x0 0 0 0 2 9;", 4));
        for (int k = 0; k < 6; k++) {
            t.see(6, 5, 5);
        }
        for (int k = 0; k < 20; k++) {
            t.write(6, 3);
        }
        t.drift(20);
        t.drift(20);
        tell(t, times(" ", 230));
        int[] due = {1, 6, 500, 7, 4, 230, 40, 40 * 8 * 500, 8, 6, 20, 30};
        for (int what = 0; what < due.length; what++) {
            Due.is("told " + what, t.told(what), due[what]);
        }
    }
}
