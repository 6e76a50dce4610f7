import java.util.ArrayDeque;
import java.util.ArrayList;
import java.util.Deque;
import java.util.List;

/**
 * Long runs of calls with arbitrary arguments against a second telling of the document, written in its
 * plainest form: no rows, no pruning, everything worked out anew from lists.
 */
public final class OracleTest {
    private static final int RUNS = 3000;
    private static final int CALLS = 512;

    private static long dice = 1;

    public static void main(String[] args) {
        for (int run = 0; run < RUNS && Due.wrongSoFar() < 20; run++) {
            dice = run * 7919L + 17;
            oneRun(run);
        }
        Due.end();
    }

    private static int roll(int n) {
        dice = dice * 6364136223846793005L + 1442695040888963407L;
        return (int) Math.floorMod(dice >>> 33, (long) n);
    }

    private static void oneRun(int run) {
        BlameTown town = new BlameTown();
        Oracle oracle = new Oracle();
        StringBuilder waiting = new StringBuilder(text());
        int tries = 0;
        for (int call = 0; call < CALLS; call++) {
            int which;
            int[] a = {argument(), argument(), argument()};
            if (waiting.length() > 0) {
                which = 0;
                a[0] = waiting.charAt(0);
                waiting.deleteCharAt(0);
                if (waiting.length() == 0) {
                    waiting.setLength(0);
                    tries = -1;
                }
            } else if (tries == -1) {
                which = 1;
                tries = 0;
            } else if (roll(150) == 0 && call < 300) {
                waiting.append(text());
                continue;
            } else {
                which = next();
            }
            long got = answer(town, which, a);
            long want = oracle.answer(which, a);
            Due.is("run " + run + " call " + call + ": " + NAMES[which] + " " + a[0] + " " + a[1] + " " + a[2], got, want);
            if (got != want) {
                return;
            }
        }
    }

    private static final String[] NAMES = {"feed", "town", "fault", "told", "man", "mishap", "belief", "blame", "clear",
        "walk", "sunset", "drift", "undo", "may", "orphans", "shared", "cheapest", "culprits", "idle", "nearer", "chain",
        "quiet", "see", "alibi", "write", "judge", "tear", "seed", "keep", "goBack"};

    /** Deeds come more often than the rest, a new town seldom. */
    private static int next() {
        int pick = roll(100);
        if (pick < 25) {
            return 7;
        }
        if (pick < 32) {
            return 8 + roll(3);
        }
        int which = roll(NAMES.length);
        return which <= 1 && roll(30) != 0 ? 3 : which;
    }

    private static int argument() {
        int kind = roll(40);
        switch (kind) {
            case 0: return Integer.MIN_VALUE;
            case 1: return Integer.MAX_VALUE;
            case 2: return -1 - roll(3);
            case 3: return roll(1 << 30) * 2 + 1;
            case 4: case 5: return roll(120);
            case 6: case 7: return roll(30);
            default: return roll(kind < 20 ? 4 : 7);
        }
    }

    private static String text() {
        StringBuilder text = new StringBuilder();
        int flavour = roll(4);
        blank(text);
        text.append('a').append(number(flavour == 0 ? 7 : 3)).append(' ').append(1 + roll(flavour == 1 ? 500 : 60)).append(';');
        int men = roll(8);
        int mishaps = roll(5);
        int toldMishaps = 0;
        while (men > 0 || mishaps > 0) {
            blank(text);
            if (men > 0 && (mishaps == 0 || roll(2) == 0)) {
                tellMan(text, flavour);
                men--;
            } else {
                tellMishap(text, flavour, toldMishaps++);
                mishaps--;
            }
        }
        blank(text);
        for (int k = roll(12); k > 8 && text.length() > 0; k--) {
            int at = roll(text.length());
            String signs = " ;amx-abcdefg0123456789Z";
            switch (roll(3)) {
                case 0: text.setCharAt(at, signs.charAt(roll(signs.length()))); break;
                case 1: text.deleteCharAt(at); break;
                default: text.insert(at, signs.charAt(roll(signs.length())));
            }
        }
        if (roll(60) == 0) {
            text.setLength(0);
        }
        return text.toString();
    }

    private static void tellMan(StringBuilder text, int flavour) {
        text.append('m').append(number(roll(3) == 0 ? 16 : 16)).append(' ').append(number(64)).append(' ')
                .append(1 + roll(flavour == 2 ? 5 : 99));
        blank(text);
        int home = roll(6);
        for (int hour = 0; hour < 6; hour++) {
            home = Math.max(0, Math.min(5, home + roll(3) - 1));
            text.append(roll(15) == 0 ? '-' : (char) ('a' + home));
        }
        blank(text);
        text.append(';');
    }

    private static void tellMishap(StringBuilder text, int flavour, int told) {
        text.append('x').append(number(6)).append(' ').append(number(6)).append(' ');
        text.append(number(roll(3) == 0 ? 16 : flavour == 3 ? 1 : 4)).append(' ').append(number(6)).append(' ');
        text.append(1 + roll(2)).append(' ');
        text.append(told == 0 || roll(2) == 0 ? 9 : roll(told));
        blank(text);
        text.append(';');
    }

    private static String number(int below) {
        return (roll(30) == 0 ? "0" : "") + roll(below);
    }

    private static void blank(StringBuilder text) {
        if (roll(10) == 0) {
            text.append(' ');
        }
    }

    private static long answer(BlameTown t, int which, int[] a) {
        switch (which) {
            case 0: return t.feed(a[0]);
            case 1: return t.town();
            case 2: return t.fault();
            case 3: return t.told(a[0]);
            case 4: return t.man(a[0], a[1]);
            case 5: return t.mishap(a[0], a[1]);
            case 6: return t.belief(a[0], a[1]);
            case 7: return t.blame(a[0], a[1]);
            case 8: return t.clear(a[0], a[1]);
            case 9: return t.walk(a[0], a[1], a[2]);
            case 10: return t.sunset();
            case 11: return t.drift(a[0]);
            case 12: return t.undo(a[0]);
            case 13: return t.may(a[0]);
            case 14: return t.orphans();
            case 15: return t.shared(a[0]);
            case 16: return t.cheapest(a[0]);
            case 17: return t.culprits(a[0]);
            case 18: return t.idle();
            case 19: return t.nearer(a[0], a[1], a[2]);
            case 20: return t.chain(a[0], a[1]);
            case 21: return t.quiet(a[0], a[1]);
            case 22: return t.see(a[0], a[1], a[2]);
            case 23: return t.alibi(a[0]);
            case 24: return t.write(a[0], a[1]);
            case 25: return t.judge();
            case 26: return t.tear();
            case 27: return t.seed(a[0]);
            case 28: return t.keep(a[0]);
            default: return t.goBack(a[0]);
        }
    }

    /** A fault of a text: thrown by the oracle's reading. */
    private static final class Faulty extends RuntimeException {
        private static final long serialVersionUID = 1;
        final int kind;
        final int at;

        Faulty(int kind, int at) {
            super("fault");
            this.kind = kind;
            this.at = at;
        }
    }

    private static final class Man {
        int powers;
        int hates;
        int rate;
        String row;
    }

    private static final class Mishap {
        int place;
        int hour;
        int needs;
        int victim;
        int sharers;
        int from;
    }

    /** Section 2, immutable but for what deeds do to a copy. */
    private static final class State {
        final int[][] where = new int[7][6];
        final int[] worn = new int[7];
        final boolean[][] blamed = new boolean[7][4];
        int spent;
        int days;

        State copy() {
            State c = new State();
            for (int m = 0; m < 7; m++) {
                c.where[m] = where[m].clone();
                c.blamed[m] = blamed[m].clone();
                c.worn[m] = worn[m];
            }
            c.spent = spent;
            c.days = days;
            return c;
        }
    }

    private static final class Oracle {
        private static final int UNKNOWN = -1000000001;
        private static final int OUTSIDE = -1000000002;
        private static final int NOT = -1000000003;
        private static final int FULL = -1000000004;

        private String text = "";
        private int faultAt = -1;
        private boolean isTown;
        private int jury;
        private int pay;
        private List<Man> men = new ArrayList<>();
        private List<Mishap> mishaps = new ArrayList<>();
        private State now = new State();
        private final Deque<State> past = new ArrayDeque<>();
        private final List<int[]> seen = new ArrayList<>();
        private final List<int[]> book = new ArrayList<>();
        private final State[] images = new State[2];
        private final long[] imageSeeds = new long[2];
        private long seed;

        long answer(int which, int[] a) {
            if (which <= 3 || which >= 10 && which <= 12) {
                return ofTown(which, a);
            }
            if (which == 14 || which == 18 || which == 21 || which >= 25) {
                return ofAll(which, a);
            }
            return ofOne(which, a);
        }

        private long ofTown(int which, int[] a) {
            switch (which) {
                case 0:
                    if (a[0] < 0 || a[0] > 255) {
                        return OUTSIDE;
                    }
                    if (text.length() == 230) {
                        return FULL;
                    }
                    text += (char) a[0];
                    return text.length();
                case 1: return town();
                case 2: return faultAt;
                case 3: return told(a[0]);
                case 10: return !isTown ? NOT : now.days > 9000 ? FULL : sunset(true);
                case 11: return drift(a[0]);
                default:
                    if (a[0] < 1 || a[0] > 30) {
                        return OUTSIDE;
                    }
                    if (past.size() < a[0]) {
                        return NOT;
                    }
                    for (int k = 0; k < a[0]; k++) {
                        now = past.pop();
                    }
                    return now.days;
            }
        }

        private long ofAll(int which, int[] a) {
            int set = 0;
            switch (which) {
                case 14:
                    for (int x = 0; x < mishaps.size(); x++) {
                        set += free(x) > 0 && may(x).isEmpty() ? 1 << x : 0;
                    }
                    return set;
                case 18:
                    for (int m = 0; m < men.size(); m++) {
                        set += blames(m) == 0 ? 1 << m : 0;
                    }
                    return set;
                case 21:
                    if (a[0] < 0 || a[0] > 60 || a[1] < 0 || a[1] > 100) {
                        return OUTSIDE;
                    }
                    long odds = 1000000000L;
                    for (int day = 0; day < a[0]; day++) {
                        for (int x = 0; x < mishaps.size(); x++) {
                            odds = odds * (100 - a[1]) / 100;
                        }
                    }
                    return odds;
                case 25:
                    for (int k = 0; k < book.size(); k++) {
                        if (!now.blamed[book.get(k)[0]][book.get(k)[1]]) {
                            return k;
                        }
                    }
                    return -1;
                case 26:
                    int had = seen.size() + book.size();
                    seen.clear();
                    book.clear();
                    return had;
                case 27:
                    if (a[0] < 0) {
                        return OUTSIDE;
                    }
                    long before = seed;
                    seed = a[0];
                    return before;
                default: return image(which, a[0]);
            }
        }

        private long image(int which, int i) {
            if (i != 0 && i != 1) {
                return UNKNOWN;
            }
            if (which == 28) {
                images[i] = now.copy();
                imageSeeds[i] = seed;
            } else if (images[i] == null) {
                return NOT;
            } else {
                now = images[i].copy();
                seed = imageSeeds[i];
            }
            past.clear();
            return 1;
        }

        private long ofOne(int which, int[] a) {
            boolean manFirst = which == 4 || which >= 6 && which <= 9 || which == 19 || which >= 22;
            boolean mishapSecond = which >= 6 && which <= 8 || which == 19 || which == 24;
            boolean mishapFirst = !manFirst;
            if (manFirst && (a[0] < 0 || a[0] >= men.size())) {
                return UNKNOWN;
            }
            if (mishapSecond && (a[1] < 0 || a[1] >= mishaps.size())) {
                return UNKNOWN;
            }
            if (mishapFirst && !(which == 15 && a[0] == -1) && (a[0] < 0 || a[0] >= mishaps.size())) {
                return UNKNOWN;
            }
            if ((which == 9 || which == 22) && (a[1] < 0 || a[1] > 5 || a[2] < 0 || a[2] > 5)) {
                return OUTSIDE;
            }
            switch (which) {
                case 4: return man(a[0], a[1]);
                case 5: return mishap(a[0], a[1]);
                case 6: return belief(a[0], a[1]);
                case 7: return blame(a[0], a[1]);
                case 8: return clear(a[0], a[1]);
                case 9: return walk(a[0], a[1], a[2]);
                case 13: return setOf(may(a[0]));
                case 15: return shared(a[0]);
                case 16: return cheapest(a[0]);
                case 17: return culprits(a[0]);
                case 19: return nearer(a[0], a[1], a[2]);
                case 20: return chain(a[0], a[1]);
                case 22:
                    if (seen.size() == 6) {
                        return FULL;
                    }
                    seen.add(a.clone());
                    return seen.size();
                case 23: return alibi(a[0]);
                default:
                    if (book.size() == 20) {
                        return FULL;
                    }
                    book.add(a.clone());
                    return book.size();
            }
        }

        // the text, by forms: n two numbers its bounds, r a row, j where it comes from
        private long town() {
            String told = text;
            text = "";
            faultAt = -1;
            Oracle fresh = new Oracle();
            try {
                fresh.readAll(told);
            } catch (Faulty f) {
                faultAt = f.at;
                return -10 - f.kind;
            }
            isTown = fresh.isTown;
            jury = fresh.jury;
            pay = fresh.pay;
            men = fresh.men;
            mishaps = fresh.mishaps;
            now = new State();
            takeRows(now);
            past.clear();
            seen.clear();
            book.clear();
            images[0] = null;
            images[1] = null;
            return men.size();
        }

        private void readAll(String told) {
            String rest = told;
            int length = told.length();
            while (!rest.trim().isEmpty() || rest.chars().anyMatch(c -> c != ' ')) {
                rest = unblank(rest);
                int at = length - rest.length();
                char word = rest.charAt(0);
                if ("amx".indexOf(word) < 0 || word != 'a' && !isTown) {
                    throw new Faulty(1, at);
                }
                if (word == 'a' && isTown || word == 'm' && men.size() == 7 || word == 'x' && mishaps.size() == 4) {
                    throw new Faulty(3, at);
                }
                int[][] forms = word == 'a' ? new int[][] {{0, 6}, {1, 500}}
                        : word == 'm' ? new int[][] {{0, 15}, {0, 63}, {1, 99}}
                        : new int[][] {{0, 5}, {0, 5}, {0, 15}, {0, 5}, {1, 2}, {0, 9}};
                int[] values = new int[forms.length];
                rest = rest.substring(1);
                for (int k = 0; k < forms.length; k++) {
                    rest = unblank(rest);
                    int first = length - rest.length();
                    String figures = rest.replaceFirst("(?s)^([0-9]*).*$", "$1");
                    if (figures.isEmpty()) {
                        throw new Faulty(1, first);
                    }
                    int value = figures.length() > 3 ? -1 : Integer.parseInt(figures);
                    boolean isNoOrigin = k == 5 && value != 9 && value >= mishaps.size();
                    if (value < forms[k][0] || value > forms[k][1] || isNoOrigin) {
                        throw new Faulty(2, first);
                    }
                    values[k] = value;
                    rest = rest.substring(figures.length());
                }
                String row = "";
                if (word == 'm') {
                    rest = unblank(rest);
                    for (int k = 0; k < 6; k++) {
                        if (rest.length() <= k || "-abcdef".indexOf(rest.charAt(k)) < 0) {
                            throw new Faulty(1, length - rest.length() + k);
                        }
                    }
                    row = rest.substring(0, 6);
                    rest = rest.substring(6);
                }
                rest = unblank(rest);
                if (!rest.startsWith(";")) {
                    throw new Faulty(1, length - rest.length());
                }
                rest = rest.substring(1);
                take(word, values, row);
            }
        }

        private static String unblank(String s) {
            int k = 0;
            while (k < s.length() && s.charAt(k) == ' ') {
                k++;
            }
            return s.substring(k);
        }

        private void take(char word, int[] v, String row) {
            if (word == 'a') {
                isTown = true;
                jury = v[0];
                pay = v[1];
            } else if (word == 'm') {
                Man man = new Man();
                man.powers = v[0];
                man.hates = v[1];
                man.rate = v[2];
                man.row = row;
                men.add(man);
            } else {
                Mishap mishap = new Mishap();
                mishap.place = v[0];
                mishap.hour = v[1];
                mishap.needs = v[2];
                mishap.victim = v[3];
                mishap.sharers = v[4];
                mishap.from = v[5] == 9 ? -1 : v[5];
                mishaps.add(mishap);
            }
        }

        private void takeRows(State s) {
            for (int m = 0; m < men.size(); m++) {
                for (int h = 0; h < 6; h++) {
                    s.where[m][h] = "abcdef".indexOf(men.get(m).row.charAt(h));
                }
            }
        }

        private long told(int what) {
            int free = 0;
            for (int x = 0; x < mishaps.size(); x++) {
                free += free(x);
            }
            int[] all = {isTown ? 1 : 0, jury, pay, men.size(), mishaps.size(), text.length(), now.days, now.spent, free,
                seen.size(), book.size(), past.size()};
            return what >= 0 && what < all.length ? all[what] : OUTSIDE;
        }

        private long man(int m, int what) {
            int set = 0;
            for (int x = 0; x < 4; x++) {
                set += now.blamed[m][x] ? 1 << x : 0;
            }
            int[] w = now.where[m];
            Man man = men.get(m);
            int[] all = {man.powers, man.hates, man.rate, now.worn[m], set, w[0], w[1], w[2], w[3], w[4], w[5]};
            return what >= 0 && what < all.length ? all[what] : OUTSIDE;
        }

        private long mishap(int x, int what) {
            Mishap i = mishaps.get(x);
            int set = 0;
            for (int m = 0; m < 7; m++) {
                set += now.blamed[m][x] ? 1 << m : 0;
            }
            int[] all = {i.place, i.hour, i.needs, i.victim, i.sharers, i.from, set};
            return what >= 0 && what < all.length ? all[what] : OUTSIDE;
        }

        private boolean far(int x, int y) {
            Mishap i = mishaps.get(x);
            Mishap j = mishaps.get(y);
            return Math.abs(i.place - j.place) > Math.abs(i.hour - j.hour);
        }

        /** Whether he is NEAR and CAN, were he at that place. */
        private boolean could(int m, int x, int place) {
            Mishap i = mishaps.get(x);
            boolean near = place == i.place || place != -1 && (place == i.place - 1 || place == i.place + 1);
            return near && (men.get(m).powers | i.needs) == men.get(m).powers;
        }

        private int faith(int m, int x, int place, int worn) {
            Mishap i = mishaps.get(x);
            int sum = 1 - worn;
            if ((men.get(m).hates >> i.victim) % 2 == 1) {
                sum += 2;
            }
            return place == i.place ? sum + 2 : sum;
        }

        private int place(int m, int x) {
            return now.where[m][mishaps.get(x).hour];
        }

        private boolean fits(int m, int x, int worn) {
            return could(m, x, place(m, x)) && faith(m, x, place(m, x), worn) >= jury;
        }

        private long belief(int m, int x) {
            return could(m, x, place(m, x)) ? faith(m, x, place(m, x), now.worn[m]) + 10 : 0;
        }

        private int free(int x) {
            int free = mishaps.get(x).sharers;
            for (int m = 0; m < 7; m++) {
                free -= now.blamed[m][x] ? 1 : 0;
            }
            return free;
        }

        private int blames(int m) {
            int count = 0;
            for (int x = 0; x < 4; x++) {
                count += now.blamed[m][x] ? 1 : 0;
            }
            return count;
        }

        private List<Integer> may(int x) {
            List<Integer> list = new ArrayList<>();
            for (int m = 0; m < men.size() && free(x) > 0; m++) {
                boolean ok = fits(m, x, now.worn[m]) && !now.blamed[m][x];
                for (int y = 0; y < mishaps.size(); y++) {
                    ok &= !(now.blamed[m][y] && far(x, y));
                }
                if (ok) {
                    list.add(m);
                }
            }
            return list;
        }

        private static int setOf(List<Integer> list) {
            int set = 0;
            for (int m : list) {
                set += 1 << m;
            }
            return set;
        }

        private void remember() {
            past.push(now.copy());
            if (past.size() > 30) {
                past.removeLast();
            }
        }

        private long blame(int m, int x) {
            if (!may(x).contains(m)) {
                return NOT;
            }
            remember();
            put(m, x);
            return men.get(m).rate;
        }

        private void put(int m, int x) {
            now.blamed[m][x] = true;
            now.worn[m] = Math.min(9, now.worn[m] + 1);
            now.spent += men.get(m).rate;
        }

        private long clear(int m, int x) {
            if (!now.blamed[m][x]) {
                return NOT;
            }
            remember();
            now.blamed[m][x] = false;
            now.worn[m] = Math.max(0, now.worn[m] - 1);
            return now.worn[m];
        }

        private long walk(int m, int hour, int place) {
            remember();
            int before = now.where[m][hour];
            now.where[m][hour] = place;
            return before;
        }

        private long sunset(boolean isDeed) {
            if (isDeed) {
                remember();
            }
            int paid = 0;
            for (int x = 0; x < mishaps.size(); x++) {
                paid += pay * free(x);
            }
            now.spent += paid;
            for (int m = 0; m < men.size(); m++) {
                if (blames(m) == 0) {
                    now.worn[m] = Math.max(0, now.worn[m] - 1);
                }
                now.blamed[m] = new boolean[4];
            }
            takeRows(now);
            now.days++;
            return paid;
        }

        private long drift(int n) {
            if (n < 1 || n > 20) {
                return OUTSIDE;
            }
            if (!isTown) {
                return NOT;
            }
            if (now.days > 9000) {
                return FULL;
            }
            for (int day = 0; day < n; day++) {
                remember();
                for (int x = 0; x < mishaps.size(); x++) {
                    while (!may(x).isEmpty()) {
                        seed = (seed * 1103515245L + 12345L) % 2147483648L;
                        put(may(x).get((int) (seed / 65536 % may(x).size())), x);
                    }
                }
                sunset(false);
            }
            return now.spent;
        }

        private long shared(int which) {
            int n = mishaps.size();
            int[] best = new int[n];
            int[] sum = {Integer.MAX_VALUE};
            shareFrom(0, new int[n], best, sum);
            return which == -1 ? sum[0] : best[which];
        }

        private void shareFrom(int x, int[] sets, int[] best, int[] sum) {
            if (x == mishaps.size()) {
                int cost = 0;
                for (int y = 0; y < x; y++) {
                    cost += sets[y] == 0 ? pay * mishaps.get(y).sharers : 0;
                    for (int m = 0; m < men.size(); m++) {
                        cost += (sets[y] >> m) % 2 == 1 ? men.get(m).rate : 0;
                    }
                }
                if (cost < sum[0]) {
                    sum[0] = cost;
                    System.arraycopy(sets, 0, best, 0, x);
                }
                return;
            }
            for (int set = 0; set < 1 << men.size(); set++) {
                if (set == 0 || Integer.bitCount(set) == mishaps.get(x).sharers && allFit(set, x, sets)) {
                    sets[x] = set;
                    shareFrom(x + 1, sets, best, sum);
                }
            }
        }

        private boolean allFit(int set, int x, int[] sets) {
            for (int m = 0; m < men.size(); m++) {
                if ((set >> m) % 2 == 1) {
                    int worn = Math.max(0, now.worn[m] - blames(m));
                    for (int y = 0; y < x; y++) {
                        if ((sets[y] >> m) % 2 == 1) {
                            worn++;
                            if (far(x, y)) {
                                return false;
                            }
                        }
                    }
                    if (!fits(m, x, Math.min(9, worn))) {
                        return false;
                    }
                }
            }
            return true;
        }

        private long cheapest(int x) {
            List<Integer> may = may(x);
            int free = free(x);
            if (free == 0 || may.size() < free) {
                return -1;
            }
            long best = Long.MAX_VALUE;
            for (int i : may) {
                for (int j : may) {
                    if (i < j && free == 2) {
                        best = Math.min(best, 1000L * (men.get(i).rate + men.get(j).rate) + (1 << i) + (1 << j));
                    }
                }
                if (free == 1) {
                    best = Math.min(best, 1000L * men.get(i).rate + (1 << i));
                }
            }
            return best % 1000;
        }

        private long culprits(int x) {
            List<Integer> list = new ArrayList<>();
            for (int m = 0; m < men.size(); m++) {
                if (could(m, x, place(m, x)) && place(m, x) == mishaps.get(x).place) {
                    list.add(m);
                }
            }
            return setOf(list);
        }

        private long nearer(int m, int x, int what) {
            if (what < 0 || what > 1) {
                return OUTSIDE;
            }
            int here = place(m, x);
            for (int steps = 0; steps < 6 && here != -1; steps++) {
                for (int to = 0; to < 6; to++) {
                    if (Math.abs(to - here) == steps && could(m, x, to) && faith(m, x, to, now.worn[m]) >= jury) {
                        return what == 0 ? steps : to;
                    }
                }
            }
            return -1;
        }

        private long chain(int x, int what) {
            if (what < 0 || what > 2) {
                return OUTSIDE;
            }
            int set = 0;
            for (int y = 0; y < mishaps.size(); y++) {
                set += root(y)[1] == root(x)[1] ? 1 << y : 0;
            }
            return what == 2 ? set : root(x)[what];
        }

        private int[] root(int x) {
            int from = mishaps.get(x).from;
            if (from == -1) {
                return new int[] {0, x};
            }
            return new int[] {root(from)[0] + 1, root(from)[1]};
        }

        private long alibi(int m) {
            int set = 0;
            for (int x = 0; x < mishaps.size(); x++) {
                boolean could = true;
                for (int[] s : seen) {
                    could &= s[0] != m || Math.abs(s[2] - mishaps.get(x).place) <= Math.abs(s[1] - mishaps.get(x).hour);
                }
                set += could ? 0 : 1 << x;
            }
            return set;
        }
    }
}
