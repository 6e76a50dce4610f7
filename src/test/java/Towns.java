/** What the tests share: the refusals as the document writes them, and towns told by a text. */
abstract class Towns {
    static final int NONE = -1;
    static final int UNKNOWN = -1000000001;
    static final int OUTSIDE = -1000000002;
    static final int NOT = -1000000003;
    static final int FULL = -1000000004;
    static final int[] WRONG = {Integer.MIN_VALUE, -2, -1, 7, 31, 32, 33, Integer.MAX_VALUE};

    static BlameTown of(String text) {
        BlameTown t = new BlameTown();
        tell(t, text);
        Due.that(text + " stands", t.town() >= 0);
        return t;
    }

    static void tell(BlameTown t, String text) {
        for (int i = 0; i < text.length(); i++) {
            t.feed(text.charAt(i));
        }
    }

    static String times(String text, int n) {
        return text.repeat(n);
    }

    static void stands(String text, int men, int mishaps) {
        BlameTown t = new BlameTown();
        tell(t, text);
        Due.is("town of <" + text + ">", t.town(), men);
        Due.is("fault of <" + text + ">", t.fault(), NONE);
        Due.is("MISHAPS of <" + text + ">", t.told(4), mishaps);
        Due.is("there is a TOWN by <" + text + ">", t.told(0), text.isBlank() ? 0 : 1);
        Due.is("used up: <" + text + ">", t.told(5), 0);
    }

    /** The sign ^ stands ahead of the letter that has the fault. */
    static void faulty(String marked, int kind) {
        faulty(marked.replace("^", ""), marked.indexOf('^'), kind);
    }

    static void faulty(String text, int at, int kind) {
        BlameTown t = new BlameTown();
        tell(t, text);
        Due.is("town of <" + text + ">", t.town(), -10 - kind);
        Due.is("fault of <" + text + ">", t.fault(), at);
        Due.is("no TOWN by <" + text + ">", t.told(0), 0);
        Due.is("used up: <" + text + ">", t.told(5), 0);
    }
}
