/**
 * A guild town in which every mishap must be somebody's fault by sunset.
 * Words in capitals are the document's.
 */
public final class BlameTown {
    public static final int NONE = -1, UNKNOWN = -1000000001, OUTSIDE = -1000000002, NOT = -1000000003, FULL = -1000000004;

    private static final int MOST_LETTERS = 230;
    private static final int MOST_MEN = 7;
    private static final int MOST_MISHAPS = 4;
    private static final int HOURS = 6;
    private static final int PLACES = 6;
    private static final int MOST_WORN = 9;
    private static final int MOST_DAYS = 9000;
    private static final int MOST_DRIFT = 20;
    private static final int MOST_UNDONE = 30;
    private static final int MOST_SEEN = 6;
    private static final int MOST_ENTRIES = 20;
    private static final int MOST_QUIET_DAYS = 60;
    private static final int HUNDRED = 100;
    private static final int BILLION = 1000000000;
    /** 2 to the 31, less 1. */
    private static final int GREATEST = 2147483647;
    /** J of a MISHAP that comes from none, as the text tells it. */
    private static final int FROM_NONE = 9;
    /** Sets of MEN for one MISHAP: nobody, or one of the 21 pairs. */
    private static final int MOST_SETS = 22;

    private final Telling telling;
    private final Facts draft;
    private final Facts facts;
    private final Standing now;
    private final Court court;
    private final Sharing sharing;
    private final Past past;
    private final Papers papers;
    private final Image firstImage;
    private final Image secondImage;
    private int faultAt;
    private int draws;

    public BlameTown() {
        telling = new Telling();
        draft = new Facts();
        facts = new Facts();
        now = new Standing();
        court = new Court(facts, now);
        sharing = new Sharing(facts, now, court);
        past = new Past();
        papers = new Papers();
        firstImage = new Image();
        secondImage = new Image();
        faultAt = NONE;
        draws = 0;
    }

    // ---- the town

    public int feed(int letter) {
        if (!isWithin(letter, 0, 255)) {
            return OUTSIDE;
        }
        if (telling.letters >= MOST_LETTERS) {
            return FULL;
        }
        return telling.add(letter);
    }

    public int town() {
        int fault = telling.readInto(draft);
        faultAt = telling.faultAt;
        if (fault != 0) {
            return -10 - fault;
        }
        facts.become(draft);
        now.begin(facts);
        past.forget();
        papers.burn();
        firstImage.kept = false;
        secondImage.kept = false;
        return facts.men;
    }

    public int fault() {
        return faultAt;
    }

    public int told(int what) {
        switch (what) {
            case 0: return facts.there ? 1 : 0;
            case 1: return facts.jury;
            case 2: return facts.pay;
            case 3: return facts.men;
            case 4: return facts.mishaps;
            case 5: return telling.letters;
            case 6: return now.days();
            case 7: return now.spent();
            case 8: return court.freeInAll();
            case 9: return papers.seen;
            case 10: return papers.entries;
            case 11: return past.count;
            default: return OUTSIDE;
        }
    }

    public int man(int m, int what) {
        if (!isMan(m)) {
            return UNKNOWN;
        }
        switch (what) {
            case 0: return at(facts.powers, m);
            case 1: return at(facts.hates, m);
            case 2: return at(facts.rates, m);
            case 3: return now.wornOf(m);
            case 4: return court.blamesOf(m);
            case 5: case 6: case 7: case 8: case 9: case 10: return now.placeOf(m, what - 5);
            default: return OUTSIDE;
        }
    }

    public int mishap(int x, int what) {
        if (!isMishap(x)) {
            return UNKNOWN;
        }
        switch (what) {
            case 0: return at(facts.places, x);
            case 1: return at(facts.hours, x);
            case 2: return at(facts.needs, x);
            case 3: return at(facts.victims, x);
            case 4: return at(facts.sharers, x);
            case 5: return at(facts.origins, x);
            case 6: return now.blamedFor(x);
            default: return OUTSIDE;
        }
    }

    public int belief(int m, int x) {
        if (!isMan(m) || !isMishap(x)) {
            return UNKNOWN;
        }
        int place = now.placeOf(m, at(facts.hours, x));
        if (!court.isNear(place, x) || !court.hasPowers(m, x)) {
            return 0;
        }
        return court.freshBelief(m, x, place) - now.wornOf(m) + 10;
    }

    // ---- deeds

    public int blame(int m, int x) {
        if (!isMan(m) || !isMishap(x)) {
            return UNKNOWN;
        }
        if (!court.mayTake(m, x)) {
            return NOT;
        }
        past.remember(now);
        putBlame(m, x);
        return at(facts.rates, m);
    }

    public int clear(int m, int x) {
        if (!isMan(m) || !isMishap(x)) {
            return UNKNOWN;
        }
        if (!isIn(now.blamedFor(x), m)) {
            return NOT;
        }
        past.remember(now);
        now.setBlamed(x, now.blamedFor(x) & ~(1 << m));
        now.wear(m, -1);
        return now.wornOf(m);
    }

    public int walk(int m, int hour, int place) {
        if (!isMan(m)) {
            return UNKNOWN;
        }
        if (!isHour(hour) || !isPlace(place)) {
            return OUTSIDE;
        }
        past.remember(now);
        int before = now.placeOf(m, hour);
        now.setPlace(m, hour, place);
        return before;
    }

    public int sunset() {
        if (!facts.there) {
            return NOT;
        }
        if (now.days() > MOST_DAYS) {
            return FULL;
        }
        past.remember(now);
        return endDay();
    }

    public int drift(int n) {
        if (!isWithin(n, 1, MOST_DRIFT)) {
            return OUTSIDE;
        }
        if (!facts.there) {
            return NOT;
        }
        if (now.days() > MOST_DAYS) {
            return FULL;
        }
        for (int day = 0; day < n; day++) {
            past.remember(now);
            for (int x = 0; x < facts.mishaps; x++) {
                blameByDraws(x);
            }
            endDay();
        }
        return now.spent();
    }

    public int undo(int n) {
        if (!isWithin(n, 1, MOST_UNDONE)) {
            return OUTSIDE;
        }
        if (n > past.count) {
            return NOT;
        }
        past.giveBack(n, now);
        return now.days();
    }

    // ---- tried

    public int may(int x) {
        return isMishap(x) ? court.takers(x) : UNKNOWN;
    }

    public int orphans() {
        int set = 0;
        for (int x = 0; x < facts.mishaps; x++) {
            if (court.freeOf(x) > 0 && court.takers(x) == 0) {
                set |= 1 << x;
            }
        }
        return set;
    }

    public int shared(int x) {
        if (x != NONE && !isMishap(x)) {
            return UNKNOWN;
        }
        sharing.solve();
        return x == NONE ? sharing.least : at(sharing.found, x);
    }

    public int cheapest(int x) {
        return isMishap(x) ? court.cheapestFor(x) : UNKNOWN;
    }

    public int culprits(int x) {
        if (!isMishap(x)) {
            return UNKNOWN;
        }
        int set = 0;
        for (int m = 0; m < facts.men; m++) {
            boolean isThere = now.placeOf(m, at(facts.hours, x)) == at(facts.places, x);
            if (isThere && court.hasPowers(m, x)) {
                set |= 1 << m;
            }
        }
        return set;
    }

    public int idle() {
        int set = 0;
        for (int m = 0; m < facts.men; m++) {
            if (court.blamesOf(m) == 0) {
                set |= 1 << m;
            }
        }
        return set;
    }

    public int nearer(int m, int x, int what) {
        if (!isMan(m) || !isMishap(x)) {
            return UNKNOWN;
        }
        if (what != 0 && what != 1) {
            return OUTSIDE;
        }
        int place = now.placeOf(m, at(facts.hours, x));
        int nearest = court.nearestFit(m, x, place);
        if (nearest == NONE || what == 1) {
            return nearest;
        }
        return Math.abs(nearest - place);
    }

    public int chain(int x, int what) {
        if (!isMishap(x)) {
            return UNKNOWN;
        }
        switch (what) {
            case 0: return facts.chainOf(x);
            case 1: return facts.rootOf(x);
            case 2: return facts.wholeOf(x);
            default: return OUTSIDE;
        }
    }

    public int quiet(int n, int q) {
        if (!isWithin(n, 0, MOST_QUIET_DAYS) || !isWithin(q, 0, HUNDRED)) {
            return OUTSIDE;
        }
        long odds = BILLION;
        int times = n * facts.mishaps;
        for (int k = 0; k < times; k++) {
            odds = odds * (HUNDRED - q) / HUNDRED;
        }
        return (int) odds;
    }

    // ---- what was seen

    public int see(int m, int hour, int place) {
        if (!isMan(m)) {
            return UNKNOWN;
        }
        if (!isHour(hour) || !isPlace(place)) {
            return OUTSIDE;
        }
        if (papers.seen >= MOST_SEEN) {
            return FULL;
        }
        return papers.addSeen(m, hour, place);
    }

    public int alibi(int m) {
        if (!isMan(m)) {
            return UNKNOWN;
        }
        int set = 0;
        for (int x = 0; x < facts.mishaps; x++) {
            if (papers.excludes(m, at(facts.hours, x), at(facts.places, x))) {
                set |= 1 << x;
            }
        }
        return set;
    }

    public int write(int m, int x) {
        if (!isMan(m) || !isMishap(x)) {
            return UNKNOWN;
        }
        if (papers.entries >= MOST_ENTRIES) {
            return FULL;
        }
        return papers.addEntry(m, x);
    }

    public int judge() {
        for (int k = 0; k < papers.entries; k++) {
            if (!isIn(now.blamedFor(at(papers.entryMishap, k)), at(papers.entryMan, k))) {
                return k;
            }
        }
        return NONE;
    }

    public int tear() {
        int had = papers.seen + papers.entries;
        papers.burn();
        return had;
    }

    // ---- images

    public int seed(int v) {
        if (v < 0) {
            return OUTSIDE;
        }
        int before = draws;
        draws = v;
        return before;
    }

    public int keep(int i) {
        Image image = imageOf(i);
        if (image == null) {
            return UNKNOWN;
        }
        copyRow(now.cells, image.cells);
        image.draws = draws;
        image.kept = true;
        past.forget();
        return 1;
    }

    public int goBack(int i) {
        Image image = imageOf(i);
        if (image == null) {
            return UNKNOWN;
        }
        if (!image.kept) {
            return NOT;
        }
        copyRow(image.cells, now.cells);
        draws = image.draws;
        past.forget();
        return 1;
    }

    // ---- what the calls share

    private boolean isMan(int m) {
        return m >= 0 && m < facts.men;
    }

    private boolean isMishap(int x) {
        return x >= 0 && x < facts.mishaps;
    }

    private Image imageOf(int i) {
        if (i == 0) {
            return firstImage;
        }
        return i == 1 ? secondImage : null;
    }

    private void putBlame(int m, int x) {
        now.setBlamed(x, now.blamedFor(x) | 1 << m);
        now.wear(m, 1);
        now.spend(at(facts.rates, m));
    }

    private void blameByDraws(int x) {
        for (int k = 0; k < MOST_MEN; k++) {
            int takers = court.takers(x);
            if (takers == 0) {
                return;
            }
            int drawn = memberOf(takers, draw(Integer.bitCount(takers)));
            if (drawn == NONE) {
                return;
            }
            putBlame(drawn, x);
        }
    }

    private int draw(int n) {
        draws = (draws * 1103515245 + 12345) & GREATEST;
        return n > 0 ? draws / 65536 % n : 0;
    }

    /** The day ends: what THE MAYOR paid. */
    private int endDay() {
        int paid = facts.pay * court.freeInAll();
        now.spend(paid);
        for (int m = 0; m < facts.men; m++) {
            if (court.blamesOf(m) == 0) {
                now.wear(m, -1);
            }
        }
        for (int x = 0; x < facts.mishaps; x++) {
            now.setBlamed(x, 0);
        }
        now.takeRows(facts);
        now.countDay();
        return paid;
    }

    private static boolean isHour(int hour) {
        return hour >= 0 && hour < HOURS;
    }

    private static boolean isPlace(int place) {
        return place >= 0 && place < PLACES;
    }

    private static boolean isWithin(int value, int least, int most) {
        return value >= least && value <= most;
    }

    private static boolean isIn(int set, int member) {
        return member >= 0 && member <= 30 && (set >> member & 1) == 1;
    }

    /** The member of a SET that has as many members below it as asked; NONE: it has too few. */
    private static int memberOf(int set, int below) {
        int passed = 0;
        for (int m = 0; m < MOST_MEN; m++) {
            if (isIn(set, m)) {
                if (passed == below) {
                    return m;
                }
                passed++;
            }
        }
        return NONE;
    }

    private static int at(int[] row, int i) {
        return row != null && i >= 0 && i < row.length ? row[i] : 0;
    }

    private static void put(int[] row, int i, int value) {
        if (row != null && i >= 0 && i < row.length) {
            row[i] = value;
        }
    }

    private static void copyRow(int[] from, int[] to) {
        if (from == null || to == null) {
            return;
        }
        for (int i = 0; i < from.length && i < to.length; i++) {
            to[i] = from[i];
        }
    }

    /** THE TEXT, and the reading of it. */
    private static final class Telling {
        private static final int CANNOT_STAND = 1;
        private static final int BAD_NUMBER = 2;
        private static final int ONE_TOO_MANY = 3;
        private static final int MOST_FIGURES = 3;

        private final int[] text;
        int letters;
        int faultAt;
        private int fault;
        private int next;
        private int numberAt;

        Telling() {
            text = new int[MOST_LETTERS];
            letters = 0;
            faultAt = NONE;
            fault = 0;
            next = 0;
            numberAt = 0;
        }

        int add(int letter) {
            put(text, letters, letter);
            letters++;
            return letters;
        }

        /** THE TEXT is used up: the number of its FAULT, 0 for none. */
        int readInto(Facts facts) {
            facts.empty();
            fault = 0;
            faultAt = NONE;
            next = 0;
            skipBlanks();
            for (int k = 0; k < MOST_LETTERS && next < letters && fault == 0; k++) {
                readClause(facts);
                skipBlanks();
            }
            letters = 0;
            return fault;
        }

        private void readClause(Facts facts) {
            int word = here();
            if (word == 'a') {
                readJury(facts);
            } else if (!facts.there) {
                mark(CANNOT_STAND, next);
            } else if (word == 'm') {
                readMan(facts);
            } else if (word == 'x') {
                readMishap(facts);
            } else {
                mark(CANNOT_STAND, next);
            }
        }

        private void readJury(Facts facts) {
            if (facts.there) {
                mark(ONE_TOO_MANY, next);
                return;
            }
            next++;
            facts.jury = readNumber(0, 6);
            facts.pay = readNumber(1, 500);
            readEnd();
            facts.there = true;
        }

        private void readMan(Facts facts) {
            int m = facts.men;
            if (m >= MOST_MEN) {
                mark(ONE_TOO_MANY, next);
                return;
            }
            next++;
            put(facts.powers, m, readNumber(0, 15));
            put(facts.hates, m, readNumber(0, 63));
            put(facts.rates, m, readNumber(1, 99));
            readRow(facts, m);
            readEnd();
            facts.men = m + 1;
        }

        private void readMishap(Facts facts) {
            int x = facts.mishaps;
            if (x >= MOST_MISHAPS) {
                mark(ONE_TOO_MANY, next);
                return;
            }
            next++;
            put(facts.places, x, readNumber(0, PLACES - 1));
            put(facts.hours, x, readNumber(0, HOURS - 1));
            put(facts.needs, x, readNumber(0, 15));
            put(facts.victims, x, readNumber(0, 5));
            put(facts.sharers, x, readNumber(1, 2));
            int origin = readNumber(0, FROM_NONE);
            if (origin >= x && origin != FROM_NONE) {
                mark(BAD_NUMBER, numberAt);
            }
            put(facts.origins, x, origin == FROM_NONE ? NONE : origin);
            readEnd();
            facts.mishaps = x + 1;
        }

        private int readNumber(int least, int most) {
            skipBlanks();
            numberAt = next;
            int value = 0;
            while (next < letters && isWithin(here(), '0', '9')) {
                // a number of many figures is too great in any case: it must not wrap round
                value = Math.min(value * 10 + here() - '0', BILLION / 100);
                next++;
            }
            if (next == numberAt) {
                mark(CANNOT_STAND, numberAt);
            } else if (next - numberAt > MOST_FIGURES || !isWithin(value, least, most)) {
                mark(BAD_NUMBER, numberAt);
            }
            return value;
        }

        private void readRow(Facts facts, int m) {
            skipBlanks();
            for (int hour = 0; hour < HOURS; hour++) {
                int letter = here();
                if (letter != '-' && !isWithin(letter, 'a', 'f')) {
                    mark(CANNOT_STAND, next);
                    return;
                }
                put(facts.rows, m * HOURS + hour, letter == '-' ? NONE : letter - 'a');
                next++;
            }
        }

        private void readEnd() {
            skipBlanks();
            if (here() != ';') {
                mark(CANNOT_STAND, next);
            }
            next++;
        }

        private void skipBlanks() {
            while (next < letters && here() == ' ') {
                next++;
            }
        }

        private int here() {
            return next >= 0 && next < letters && next < text.length ? text[next] : NONE;
        }

        /** The text is read from its front: only the first FAULT that is marked counts. */
        private void mark(int kind, int letter) {
            if (fault == 0) {
                fault = kind;
                faultAt = letter;
            }
        }
    }

    /** What a text told of THE TOWN: section 1. */
    private static final class Facts {
        boolean there;
        int jury;
        int pay;
        int men;
        int mishaps;
        final int[] powers;
        final int[] hates;
        final int[] rates;
        final int[] rows;
        final int[] places;
        final int[] hours;
        final int[] needs;
        final int[] victims;
        final int[] sharers;
        final int[] origins;

        Facts() {
            there = false;
            jury = 0;
            pay = 0;
            men = 0;
            mishaps = 0;
            powers = new int[MOST_MEN];
            hates = new int[MOST_MEN];
            rates = new int[MOST_MEN];
            rows = new int[MOST_MEN * HOURS];
            places = new int[MOST_MISHAPS];
            hours = new int[MOST_MISHAPS];
            needs = new int[MOST_MISHAPS];
            victims = new int[MOST_MISHAPS];
            sharers = new int[MOST_MISHAPS];
            origins = new int[MOST_MISHAPS];
        }

        void empty() {
            there = false;
            jury = 0;
            pay = 0;
            men = 0;
            mishaps = 0;
        }

        void become(Facts other) {
            there = other.there;
            jury = other.jury;
            pay = other.pay;
            men = other.men;
            mishaps = other.mishaps;
            copyRow(other.powers, powers);
            copyRow(other.hates, hates);
            copyRow(other.rates, rates);
            copyRow(other.rows, rows);
            copyRow(other.places, places);
            copyRow(other.hours, hours);
            copyRow(other.needs, needs);
            copyRow(other.victims, victims);
            copyRow(other.sharers, sharers);
            copyRow(other.origins, origins);
        }

        boolean areFar(int x, int y) {
            return Math.abs(at(places, x) - at(places, y)) > Math.abs(at(hours, x) - at(hours, y));
        }

        int ratesOf(int set) {
            int sum = 0;
            for (int m = 0; m < men; m++) {
                if (isIn(set, m)) {
                    sum += at(rates, m);
                }
            }
            return sum;
        }

        int chainOf(int x) {
            int count = 0;
            int from = at(origins, x);
            for (int k = 0; k < MOST_MISHAPS && from != NONE; k++) {
                count++;
                from = at(origins, from);
            }
            return count;
        }

        int rootOf(int x) {
            int root = x;
            for (int k = 0; k < MOST_MISHAPS && at(origins, root) != NONE; k++) {
                root = at(origins, root);
            }
            return root;
        }

        int wholeOf(int x) {
            int set = 0;
            for (int y = 0; y < mishaps; y++) {
                if (rootOf(y) == rootOf(x)) {
                    set |= 1 << y;
                }
            }
            return set;
        }
    }

    /** What changes from deed to deed: section 2, in one row, so that it can be kept and given back whole. */
    private static final class Standing {
        private static final int WORN_FROM = MOST_MEN * HOURS;
        private static final int BLAMED_FROM = WORN_FROM + MOST_MEN;
        private static final int SPENT_AT = BLAMED_FROM + MOST_MISHAPS;
        private static final int DAYS_AT = SPENT_AT + 1;
        static final int CELLS = DAYS_AT + 1;

        final int[] cells;

        Standing() {
            cells = new int[CELLS];
        }

        void begin(Facts facts) {
            for (int i = 0; i < cells.length; i++) {
                cells[i] = 0;
            }
            takeRows(facts);
        }

        void takeRows(Facts facts) {
            copyRow(facts.rows, cells);
        }

        int placeOf(int m, int hour) {
            return at(cells, m * HOURS + hour);
        }

        void setPlace(int m, int hour, int place) {
            put(cells, m * HOURS + hour, place);
        }

        int wornOf(int m) {
            return at(cells, WORN_FROM + m);
        }

        void wear(int m, int by) {
            put(cells, WORN_FROM + m, Math.max(0, Math.min(MOST_WORN, wornOf(m) + by)));
        }

        /** A SET of MEN. */
        int blamedFor(int x) {
            return at(cells, BLAMED_FROM + x);
        }

        void setBlamed(int x, int set) {
            put(cells, BLAMED_FROM + x, set);
        }

        int spent() {
            return at(cells, SPENT_AT);
        }

        void spend(int sum) {
            put(cells, SPENT_AT, spent() + sum);
        }

        int days() {
            return at(cells, DAYS_AT);
        }

        void countDay() {
            put(cells, DAYS_AT, days() + 1);
        }
    }

    /** What the jury of aunts thinks: it looks, and changes nothing. */
    private static final class Court {
        private final Facts facts;
        private final Standing now;

        Court(Facts facts, Standing now) {
            this.facts = facts;
            this.now = now;
        }

        boolean isNear(int place, int x) {
            return place != NONE && Math.abs(place - at(facts.places, x)) <= 1;
        }

        boolean hasPowers(int m, int x) {
            return (at(facts.needs, x) & ~at(facts.powers, m)) == 0;
        }

        /** BELIEF of a MAN who is not WORN, were he at that PLACE. */
        int freshBelief(int m, int x, int place) {
            int hated = isIn(at(facts.hates, m), at(facts.victims, x)) ? 2 : 0;
            int there = place == at(facts.places, x) ? 2 : 0;
            return 1 + hated + there;
        }

        /** The most WORN with which he FITS, were he at that PLACE; below 0: he never does. */
        int wornLimit(int m, int x, int place) {
            if (!isNear(place, x) || !hasPowers(m, x)) {
                return -1;
            }
            return freshBelief(m, x, place) - facts.jury;
        }

        int freeOf(int x) {
            return Math.max(0, at(facts.sharers, x) - Integer.bitCount(now.blamedFor(x)));
        }

        int freeInAll() {
            int sum = 0;
            for (int x = 0; x < facts.mishaps; x++) {
                sum += freeOf(x);
            }
            return sum;
        }

        /** MISHAPS for which he is BLAMED. */
        int blamesOf(int m) {
            int set = 0;
            for (int x = 0; x < facts.mishaps; x++) {
                if (isIn(now.blamedFor(x), m)) {
                    set |= 1 << x;
                }
            }
            return set;
        }

        boolean mayTake(int m, int x) {
            if (freeOf(x) == 0 || isIn(now.blamedFor(x), m)) {
                return false;
            }
            for (int y = 0; y < facts.mishaps; y++) {
                if (isIn(now.blamedFor(y), m) && facts.areFar(x, y)) {
                    return false;
                }
            }
            int place = now.placeOf(m, at(facts.hours, x));
            return now.wornOf(m) <= wornLimit(m, x, place);
        }

        /** MAY: a SET of MEN. */
        int takers(int x) {
            int set = 0;
            for (int m = 0; m < facts.men; m++) {
                if (mayTake(m, x)) {
                    set |= 1 << m;
                }
            }
            return set;
        }

        int cheapestFor(int x) {
            int takers = takers(x);
            int free = freeOf(x);
            int best = NONE;
            int least = GREATEST;
            for (int set = 1; set < 1 << MOST_MEN; set++) {
                boolean isFilling = (set & ~takers) == 0 && Integer.bitCount(set) == free;
                if (isFilling && facts.ratesOf(set) < least) {
                    best = set;
                    least = facts.ratesOf(set);
                }
            }
            return best;
        }

        /** The PLACE at which he FITS that is next to the one where he is; NONE. */
        int nearestFit(int m, int x, int place) {
            if (place == NONE) {
                return NONE;
            }
            int best = NONE;
            int least = PLACES;
            for (int other = 0; other < PLACES; other++) {
                int steps = Math.abs(other - place);
                if (steps < least && now.wornOf(m) <= wornLimit(m, x, other)) {
                    best = other;
                    least = steps;
                }
            }
            return best;
        }
    }

    /**
     * SHARED: all sets of MEN are tried MISHAP by MISHAP, the least first, and only what is dearer or
     * alike is passed over: so the first of like ones stays.
     */
    private static final class Sharing {
        private final Facts facts;
        private final Standing now;
        private final Court court;
        private final int[] wornBefore;
        private final int[] wornLimits;
        private final int[] farFrom;
        private final int[] sets;
        private final int[] prices;
        private final int[] setCounts;
        /** The least that the MISHAPS from one on can cost. */
        private final int[] restCosts;
        /** For each MAN the MISHAPS that he has been given so far. */
        private final int[] given;
        private final int[] picked;
        final int[] found;
        int least;

        Sharing(Facts facts, Standing now, Court court) {
            this.facts = facts;
            this.now = now;
            this.court = court;
            wornBefore = new int[MOST_MEN];
            wornLimits = new int[MOST_MISHAPS * MOST_MEN];
            farFrom = new int[MOST_MISHAPS];
            sets = new int[MOST_MISHAPS * MOST_SETS];
            prices = new int[MOST_MISHAPS * MOST_SETS];
            setCounts = new int[MOST_MISHAPS];
            restCosts = new int[MOST_MISHAPS + 1];
            given = new int[MOST_MEN];
            picked = new int[MOST_MISHAPS];
            found = new int[MOST_MISHAPS];
            least = 0;
        }

        void solve() {
            for (int m = 0; m < facts.men; m++) {
                int blames = Integer.bitCount(court.blamesOf(m));
                put(wornBefore, m, Math.max(0, now.wornOf(m) - blames));
                put(given, m, 0);
            }
            put(restCosts, facts.mishaps, 0);
            for (int x = facts.mishaps - 1; x >= 0; x--) {
                lookAt(x);
            }
            least = GREATEST;
            search(0, 0);
        }

        private void lookAt(int x) {
            int far = 0;
            for (int y = 0; y < facts.mishaps; y++) {
                if (facts.areFar(x, y)) {
                    far |= 1 << y;
                }
            }
            put(farFrom, x, far);
            for (int m = 0; m < facts.men; m++) {
                int place = now.placeOf(m, at(facts.hours, x));
                put(wornLimits, x * MOST_MEN + m, court.wornLimit(m, x, place));
            }
            listSets(x);
        }

        private void listSets(int x) {
            int sharers = at(facts.sharers, x);
            int nobody = facts.pay * sharers;
            put(setCounts, x, 0);
            addSet(x, 0, nobody);
            int lowest = nobody;
            for (int set = 1; set < 1 << facts.men; set++) {
                if (Integer.bitCount(set) == sharers && allTake(set, x)) {
                    int price = facts.ratesOf(set);
                    addSet(x, set, price);
                    lowest = Math.min(lowest, price);
                }
            }
            put(restCosts, x, at(restCosts, x + 1) + lowest);
        }

        private void addSet(int x, int set, int price) {
            int count = at(setCounts, x);
            if (count < MOST_SETS) {
                put(sets, x * MOST_SETS + count, set);
                put(prices, x * MOST_SETS + count, price);
                put(setCounts, x, count + 1);
            }
        }

        private boolean allTake(int set, int x) {
            for (int m = 0; m < facts.men; m++) {
                if (isIn(set, m) && !takes(m, x)) {
                    return false;
                }
            }
            return true;
        }

        private boolean takes(int m, int x) {
            int ahead = at(given, m);
            int worn = Math.min(MOST_WORN, at(wornBefore, m) + Integer.bitCount(ahead));
            return worn <= at(wornLimits, x * MOST_MEN + m) && (ahead & at(farFrom, x)) == 0;
        }

        /** The depth is the MISHAP's number: MOST_MISHAPS at most. */
        private void search(int x, int cost) {
            if (x >= facts.mishaps || x >= MOST_MISHAPS) {
                least = cost;
                copyRow(picked, found);
                return;
            }
            int rest = at(restCosts, x + 1);
            int count = at(setCounts, x);
            for (int k = 0; k < count; k++) {
                int costThen = cost + at(prices, x * MOST_SETS + k);
                if (costThen + rest < least) {
                    pick(x, at(sets, x * MOST_SETS + k), costThen);
                }
            }
        }

        private void pick(int x, int set, int costThen) {
            if (allTake(set, x)) {
                give(set, 1 << x);
                put(picked, x, set);
                search(x + 1, costThen);
                give(set, 1 << x);
            }
        }

        /** Given to those who had it not, taken back from those who had it. */
        private void give(int set, int mishap) {
            for (int m = 0; m < facts.men; m++) {
                if (isIn(set, m)) {
                    put(given, m, at(given, m) ^ mishap);
                }
            }
        }
    }

    /** What can be undone: the latest standings, in a ring. */
    private static final class Past {
        private final int[][] rows;
        private int next;
        int count;

        Past() {
            rows = new int[MOST_UNDONE][Standing.CELLS];
            next = 0;
            count = 0;
        }

        void forget() {
            count = 0;
        }

        void remember(Standing standing) {
            if (next >= 0 && next < rows.length) {
                copyRow(standing.cells, rows[next]);
            }
            next = (next + 1) % MOST_UNDONE;
            count = Math.min(MOST_UNDONE, count + 1);
        }

        void giveBack(int n, Standing standing) {
            next = Math.floorMod(next - n, MOST_UNDONE);
            count = Math.max(0, count - n);
            if (next >= 0 && next < rows.length) {
                copyRow(rows[next], standing.cells);
            }
        }
    }

    /** What was SEEN, and THE BOOK. */
    private static final class Papers {
        private final int[] seenMan;
        private final int[] seenHour;
        private final int[] seenPlace;
        int seen;
        final int[] entryMan;
        final int[] entryMishap;
        int entries;

        Papers() {
            seenMan = new int[MOST_SEEN];
            seenHour = new int[MOST_SEEN];
            seenPlace = new int[MOST_SEEN];
            seen = 0;
            entryMan = new int[MOST_ENTRIES];
            entryMishap = new int[MOST_ENTRIES];
            entries = 0;
        }

        void burn() {
            seen = 0;
            entries = 0;
        }

        int addSeen(int m, int hour, int place) {
            put(seenMan, seen, m);
            put(seenHour, seen, hour);
            put(seenPlace, seen, place);
            seen++;
            return seen;
        }

        int addEntry(int m, int x) {
            put(entryMan, entries, m);
            put(entryMishap, entries, x);
            entries++;
            return entries;
        }

        /** Some sighting of the man is too far off for him to be at that PLACE at that HOUR. */
        boolean excludes(int m, int hour, int place) {
            for (int k = 0; k < seen; k++) {
                int steps = Math.abs(at(seenPlace, k) - place);
                int time = Math.abs(at(seenHour, k) - hour);
                if (at(seenMan, k) == m && steps > time) {
                    return true;
                }
            }
            return false;
        }
    }

    /** One of the IMAGES. */
    private static final class Image {
        final int[] cells;
        int draws;
        boolean kept;

        Image() {
            cells = new int[Standing.CELLS];
            draws = 0;
            kept = false;
        }
    }
}
