/** Promises 32 to 34: meeting by keys, how many pairs meet, the best keys. */
public final class KeysTest {
    private static final int NONE = Desk.NONE, BAD = Desk.BAD, NOT = Desk.NOT;
    private static final Due due = new Due();

    public static void main(String[] args) {
        meetByEach();
        meetRefused();
        pairs();
        keysOfNoChecks();
        fewestPairs();
        fewestKeys();
        keysThatCount();
        due.end();
    }

    /** By which keys alone the two meet, as bits. */
    private static int alike(Desk d, int a, int b) {
        int bits = 0;
        for (int key = 0; key < 6; key++) {
            if (d.x.meet(a, b, 1 << key) == 1) bits |= 1 << key;
        }
        return bits;
    }

    // Promise 32
    private static void meetByEach() {
        Object[][] cases = {
            // names, years, places, sorts, and the keys by which they are alike
            {"anna", "anna", NONE, NONE, NONE, NONE, NONE, NONE, 1 | 2 | 16},
            {"anna", "ana", NONE, NONE, NONE, NONE, NONE, NONE, 1 | 2 | 16},
            {"anna", "anni", NONE, NONE, NONE, NONE, NONE, NONE, 2},
            {"anna", "hanna", NONE, NONE, NONE, NONE, NONE, NONE, 16},
            {"abc", "def", 1800, 1809, NONE, NONE, NONE, NONE, 4},
            {"abc", "def", 1799, 1800, NONE, NONE, NONE, NONE, 0},
            {"abc", "def", 1809, 1810, NONE, NONE, NONE, NONE, 0},
            {"abc", "def", 1800, 1900, NONE, NONE, NONE, NONE, 0},
            {"abc", "def", NONE, 1800, NONE, NONE, NONE, NONE, 0},
            {"abc", "def", 1800, NONE, NONE, NONE, NONE, NONE, 0},
            {"abc", "def", NONE, NONE, 0, 0, NONE, NONE, 8},
            {"abc", "def", NONE, NONE, 7, 6, NONE, NONE, 0},
            {"abc", "def", NONE, NONE, NONE, 0, NONE, NONE, 0},
            {"abc", "def", NONE, NONE, NONE, NONE, 1, 1, 0},
            {"abc", "axy", NONE, NONE, NONE, NONE, 1, 1, 2 | 32},
            {"abc", "axy", NONE, NONE, NONE, NONE, 0, 0, 2 | 32},
            {"abc", "axy", NONE, NONE, NONE, NONE, 0, 1, 2},
            {"abc", "axy", NONE, NONE, NONE, NONE, 0, NONE, 2},
            {"abc", "axy", NONE, NONE, NONE, NONE, NONE, 1, 2},
            {"a", "ba", NONE, NONE, NONE, NONE, 1, 1, 16},
            {"abc", "abc", 1990, 1999, 3, 3, 1, 1, 63},
        };
        for (Object[] c : cases) {
            Desk d = new Desk();
            d.row(0, (String) c[0], (Integer) c[2], (Integer) c[4], (Integer) c[6]);
            d.row(2, (String) c[1], (Integer) c[3], (Integer) c[5], (Integer) c[7]);
            String who = java.util.Arrays.toString(c);
            int want = (Integer) c[8];
            due.is("alike " + who, alike(d, 0, 1), want);
            due.is("alike the other way " + who, alike(d, 1, 0), want);
            for (int keys = 0; keys < 64; keys++) {
                due.is("meet by " + keys + " " + who, d.x.meet(0, 1, keys), (want & keys) != 0 ? 1 : 0);
                due.is("pairs by " + keys + " " + who, d.x.pairs(keys), (want & keys) != 0 ? 1 : 0);
            }
        }
        Desk d = new Desk();
        d.row(0, "meier");
        d.row(1, "myr");
        due.is("without a text", alike(d, 0, 1), 2 | 16);
        d.sounds("eiy=0");
        due.is("by the sound", alike(d, 0, 1), 1 | 2 | 16);
    }

    private static void meetRefused() {
        Desk d = new Desk();
        due.is("meet without rows", d.x.meet(0, 1, 1), BAD);
        d.row(0, "a");
        d.row(0, "a");
        d.row(1, "a");
        int[][] bad = {{0, 0, 1}, {0, 3, 1}, {3, 0, 1}, {-1, 0, 1}, {0, -1, 1}, {0, 2, -1}, {0, 2, 64}, {0, 1, 64}};
        for (int[] c : bad) {
            due.is("meet " + java.util.Arrays.toString(c), d.x.meet(c[0], c[1], c[2]), BAD);
        }
        due.is("of one register", d.x.meet(0, 1, 63), NOT);
        due.is("of two", d.x.meet(0, 2, 63), 1);
        due.is("by no keys", d.x.meet(0, 2, 0), 0);
        d.x.pass(1);
        d.x.takeBack(2);
        due.is("the second is not known", d.x.meet(0, 2, 63), NOT);
        due.is("the first is not known", d.x.meet(2, 0, 63), NOT);
        d.x.asOf(0);
        due.is("as of the day before", d.x.meet(0, 2, 63), 1);
    }

    // Promise 33
    private static void pairs() {
        Desk d = new Desk();
        due.is("pairs without rows", d.x.pairs(63), 0);
        d.row(0, "anna", 1800, 1, 0);
        d.row(0, "anna", 1800, 1, 0);
        d.row(1, "anne", 1805, 2, 0);
        d.row(2, "otto", 1807, 1, 1);
        d.row(2, "oda", 1810, 2, 1);
        int[] want = {0, 2, 5, 3, 2, 2};
        for (int key = 0; key < 6; key++) {
            due.is("pairs by key " + key, d.x.pairs(1 << key), want[key]);
        }
        // a pair that meets by two keys is one pair
        due.is("pairs by the first letter or its sort", d.x.pairs(2 | 32), 2);
        due.is("pairs by first letter or year", d.x.pairs(2 | 4), 5);
        due.is("pairs by year or place", d.x.pairs(4 | 8), 6);
        due.is("pairs by all", d.x.pairs(63), 8);
        due.is("pairs by none", d.x.pairs(0), 0);
        due.is("pairs(-1)", d.x.pairs(-1), BAD);
        due.is("pairs(64)", d.x.pairs(64), BAD);
        d.x.pass(1);
        d.x.takeBack(2);
        due.is("pairs by all less a row", d.x.pairs(63), 4);
        d.x.asOf(0);
        due.is("pairs as of the day before", d.x.pairs(63), 8);
    }

    // Promise 34
    private static void keysOfNoChecks() {
        Desk d = new Desk();
        due.is("keys() without rows", d.x.keys(), 0);
        d.row(0, "anna", 1800, 1, 0);
        d.row(1, "bert", 1850, 2, 1);
        due.is("keys() without checks", d.x.keys(), 0);
        d.x.check(0, 1, false);
        due.is("keys() with a pair that is not one person", d.x.keys(), 0);
        d.x.check(0, 1, true);
        due.is("not even all keys do", d.x.keys(), NONE);
        d.row(0, "anna", 1800, 1, 0);
        d.row(1, "anna", 1800, 1, 0);
        d.x.check(2, 3, true);
        due.is("one that meets does not help", d.x.keys(), NONE);
        d.x.check(0, 1, false);
        due.is("now all keys but the best is asked", d.x.keys(), 1);
    }

    private static void fewestPairs() {
        Desk d = new Desk();
        d.row(0, "anna", 1800, 1, 0);
        d.row(1, "anne", 1890, 1, 1);
        d.row(0, "bert", 1820, 2, 0);
        d.row(1, "ulf", 1825, 1, 1);
        d.x.check(0, 1, true);
        due.is("first letter alone: one pair", d.x.keys(), 2);
        d.x.check(2, 3, true);
        // only the year helps the second; year and first letter have two pairs
        due.is("first letter and year", d.x.keys(), 2 | 4);
        d.x.check(0, 1, false);
        due.is("the year alone", d.x.keys(), 4);
        Desk e = new Desk();
        // places 1: all alike, four pairs; two keys with one pair each are fewer
        e.row(0, "aab", 1800, 1, NONE);
        e.row(1, "acd", 1850, 1, NONE);
        e.row(0, "bxe", 1900, 1, NONE);
        e.row(1, "cye", 1950, 1, NONE);
        e.x.check(0, 1, true);
        e.x.check(2, 3, true);
        due.is("pairs by place", e.x.pairs(8), 4);
        due.is("two keys that have fewer pairs", e.x.keys(), 2 | 16);
        e.x.takeBack(3);
        due.is("of known rows", e.x.keys(), 2);
    }

    private static void fewestKeys() {
        Desk d = new Desk();
        d.row(0, "anna", 1800, 1, 0);
        d.row(1, "anna", 1800, 1, 0);
        d.x.check(0, 1, true);
        due.is("each key does: the least as bits", d.x.keys(), 1);
        d.x.check(0, 1, false);
        due.is("it is asked anew each time", d.x.keys(), 0);
        Desk e = new Desk();
        // place does for both; first letter and year do, too: three pairs each way
        e.row(0, "aab", 1800, 1, NONE);
        e.row(1, "acd", 1850, 1, NONE);
        e.row(0, "bxe", 1900, 2, NONE);
        e.row(1, "cyf", 1905, 2, NONE);
        e.x.check(0, 1, true);
        e.x.check(2, 3, true);
        due.is("one key rather than two of lesser bits", e.x.keys(), 8);
        due.is("as many pairs by two", e.x.pairs(2 | 4), e.x.pairs(8));
        Desk f = new Desk();
        f.row(0, "abc", NONE, NONE, 1);
        f.row(1, "axy", NONE, NONE, 1);
        f.x.check(1, 0, true);
        due.is("first letter rather than first letter and sort", f.x.keys(), 2);
        f.row(1, "auu", NONE, NONE, 0);
        due.is("first letter and sort, when it has one pair less", f.x.keys(), 32);
        Desk g = new Desk();
        for (int k = 0; k < 36; k++) {
            g.row(k % 2, "abc", 1800, 1, 1);
        }
        for (int k = 0; k < 40; k++) {
            g.x.check(k % 18 * 2, 2 * (k / 18) + 1, true);
        }
        due.is("40 checks", g.x.count(6), 40);
        due.is("keys() of 36 rows and 40 checks", g.x.keys(), 1);
        due.is("pairs(1) of 36 rows", g.x.pairs(1), 18 * 18);
    }

    private static void keysThatCount() {
        Desk d = new Desk();
        d.row(0, "anna", 1800, 1, 0);
        d.row(0, "bert", 1850, 2, 1);
        d.row(1, "anton", 1950, 3, 1);
        d.x.check(0, 1, true);
        due.is("a pair of one register does not count", d.x.keys(), 0);
        d.x.pass(1);
        d.x.check(1, 2, true);
        due.is("a pair that meets by the first letter and sort, not", d.x.keys(), NONE);
        d.x.takeBack(1);
        due.is("a pair with a row taken back does not count", d.x.keys(), 0);
        d.x.check(0, 2, true);
        due.is("a pair of known rows does", d.x.keys(), 2);
        d.x.asOf(0);
        due.is("as of the day before", d.x.keys(), NONE);
    }
}
