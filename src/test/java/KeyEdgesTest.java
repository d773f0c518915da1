/**
 * The edges that the document names of keys: promises 32 to 34 and their terms. Each method is one
 * sentence, or the part of one that names an edge.
 */
public final class KeyEdgesTest {
    private static final int NONE = Desk.NONE, BAD = Desk.BAD, NOT = Desk.NOT;
    private static final int LEAST = Integer.MIN_VALUE, MOST = Integer.MAX_VALUE;
    private static final Due due = new Due();

    public static void main(String[] args) {
        keysAre0To63();
        noPairToMeet();
        notKnown();
        ofOneRegister();
        meetRefusedInOrder();
        theSound();
        firstAndLastLetter();
        theYearByTen();
        thePlace();
        firstLetterAndSort();
        whatIsMissing();
        pairsOfNoneAndAll();
        pairsOfKnownRows();
        keysOfNothing();
        notEvenAllKeys();
        onlyWhatIsOnePerson();
        onlyUnlikeRegisters();
        onlyKnownRows();
        theFewestPairs();
        ofLikeOnesTheFewestKeys();
        thenTheLeastAsBits();
        fortyChecksOf36Rows();
        due.end();
    }

    private static Desk pair(String one, String other) {
        Desk d = new Desk();
        d.row(0, one);
        d.row(1, other);
        return d;
    }

    // Promises 32, 33: "a set of KEYS (bits 0 to 63)"
    private static void keysAre0To63() {
        Desk d = pair("a", "a");
        int[] none = {LEAST, -64, -1, 64, 65, 127, MOST};
        for (int keys : none) {
            due.is("meet(0, 1, " + keys + ")", d.x.meet(0, 1, keys), BAD);
            due.is("pairs(" + keys + ")", d.x.pairs(keys), BAD);
        }
        due.is("by no KEYS", d.x.meet(0, 1, 0), 0);
        due.is("by all KEYS", d.x.meet(0, 1, 63), 1);
        due.is("pairs by no KEYS", d.x.pairs(0), 0);
        due.is("pairs by all KEYS", d.x.pairs(63), 1);
    }

    // Promise 32: "BAD: also a ROW with itself"
    private static void noPairToMeet() {
        due.is("without ROWS", new OneSelf().meet(0, 1, 1), BAD);
        Desk d = pair("a", "a");
        int[][] bad = {{0, 0}, {1, 1}, {0, 2}, {2, 0}, {2, 2}, {-1, 0}, {0, -1}, {LEAST, 0}, {0, MOST}, {36, 0}};
        for (int[] p : bad) {
            due.is("meet(" + p[0] + ", " + p[1] + ", 63)", d.x.meet(p[0], p[1], 63), BAD);
        }
        for (int row = 2; row <= 35; row++) {
            d.row(2, "a");
        }
        due.is("the last", d.x.meet(0, 35, 1), 1);
        due.is("the last, the other way", d.x.meet(35, 1, 1), 1);
        due.is("one more", d.x.meet(36, 1, 1), BAD);
    }

    // Promise 32: "NOT: not KNOWN"
    private static void notKnown() {
        Desk d = pair("a", "a");
        d.x.pass(1);
        d.x.takeBack(0);
        due.is("the first", d.x.meet(0, 1, 63), NOT);
        due.is("the second", d.x.meet(1, 0, 63), NOT);
        d.row(2, "a");
        due.is("another", d.x.meet(1, 2, 63), 1);
        d.x.asOf(0);
        due.is("as of the DAY before", d.x.meet(0, 1, 63), 1);
        due.is("not told yet", d.x.meet(1, 2, 63), NOT);
    }

    // Promise 32: "of one REGISTER"
    private static void ofOneRegister() {
        for (int one = 0; one <= 2; one++) {
            for (int other = 0; other <= 2; other++) {
                Desk d = new Desk();
                d.row(one, "a");
                d.row(other, "a");
                due.is("of " + one + " and " + other, d.x.meet(0, 1, 1), one == other ? NOT : 1);
                due.is("pairs of " + one + " and " + other, d.x.pairs(1), one == other ? 0 : 1);
            }
        }
    }

    // "Refusals, the first that fits, in the order told at each act"
    private static void meetRefusedInOrder() {
        Desk d = new Desk();
        d.row(0, "a");
        d.row(0, "a");
        d.x.takeBack(1);
        due.is("BAD KEYS, NOT", d.x.meet(0, 1, 64), BAD);
        due.is("BAD ROW, NOT", d.x.meet(1, 2, 0), BAD);
        due.is("with itself, NOT", d.x.meet(1, 1, 0), BAD);
        due.is("NOT", d.x.meet(0, 1, 63), NOT);
    }

    private static void meets(String what, Desk d, int key, boolean want) {
        due.is("meet by " + key + ", " + what, d.x.meet(0, 1, 1 << key), want ? 1 : 0);
        due.is("meet by " + key + ", the other way, " + what, d.x.meet(1, 0, 1 << key), want ? 1 : 0);
        due.is("pairs by " + key + ", " + what, d.x.pairs(1 << key), want ? 1 : 0);
        due.is("pairs by all but " + key + ", " + what, d.x.pairs(63 - (1 << key)), d.x.meet(0, 1, 63 - (1 << key)));
    }

    // Terms 6: "0 the SOUND"
    private static void theSound() {
        meets("one letter", pair("a", "a"), 0, true);
        meets("one letter, and ten of it", pair("a", "aaaaaaaaaa"), 0, true);
        meets("ten letters", pair("abcdefghij", "abcdefghij"), 0, true);
        meets("the last of ten", pair("abcdefghij", "abcdefghik"), 0, false);
        Desk d = pair("abcdefghij", "abcdefghik");
        d.sounds("jk=0");
        meets("the last of ten left out", d, 0, true);
        d.x.type('!');
        meets("with a FAULT", d, 0, false);
    }

    // Terms 6: "1 the first letter", "4 the last letter"
    private static void firstAndLastLetter() {
        meets("a, a", pair("a", "a"), 1, true);
        meets("a, a", pair("a", "a"), 4, true);
        meets("a, b", pair("a", "b"), 1, false);
        meets("a, b", pair("a", "b"), 4, false);
        meets("of one and ten", pair("a", "abcdefghij"), 1, true);
        meets("of one and ten", pair("a", "abcdefghij"), 4, false);
        meets("of one and ten, the last", pair("j", "abcdefghij"), 4, true);
        meets("of one and ten, the last", pair("j", "abcdefghij"), 1, false);
        meets("first and last", pair("ab", "ba"), 1, false);
        meets("first and last", pair("ab", "ba"), 4, false);
    }

    // Terms 6: "2 the YEAR by 10 (cut)"
    private static void theYearByTen() {
        int[][] want = {
            {1500, 1509, 1}, {1500, 1500, 1}, {1509, 1510, 0}, {1990, 1999, 1}, {1989, 1990, 0}, {1500, 1999, 0},
            {1800, 1900, 0}, {1804, 1805, 1}, {1895, 1904, 0}, {1899, 1900, 0},
        };
        for (int[] w : want) {
            Desk d = new Desk();
            d.row(0, "a", w[0], NONE, NONE);
            d.row(1, "b", w[1], NONE, NONE);
            meets(w[0] + " and " + w[1], d, 2, w[2] == 1);
        }
    }

    // Terms 6: "3 the PLACE": not the WAY
    private static void thePlace() {
        int[][] want = {{0, 0, 1}, {7, 7, 1}, {0, 7, 0}, {7, 6, 0}};
        for (int[] w : want) {
            Desk d = new Desk();
            d.row(0, "a", NONE, w[0], NONE);
            d.row(1, "b", NONE, w[1], NONE);
            d.x.way(0, 7, 0);
            meets("PLACES " + w[0] + " and " + w[1], d, 3, w[2] == 1);
        }
    }

    // Terms 6: "5 the first letter and the SORT"
    private static void firstLetterAndSort() {
        int[][] sorts = {{0, 0, 1}, {1, 1, 1}, {0, 1, 0}, {1, 0, 0}};
        for (int[] s : sorts) {
            Desk d = new Desk();
            d.row(0, "ab", NONE, NONE, s[0]);
            d.row(1, "ac", NONE, NONE, s[1]);
            meets("SORTS " + s[0] + " and " + s[1], d, 5, s[2] == 1);
            Desk e = new Desk();
            e.row(0, "ab", NONE, NONE, s[0]);
            e.row(1, "bb", NONE, NONE, s[1]);
            meets("unlike letters, SORTS " + s[0] + " and " + s[1], e, 5, false);
        }
    }

    // Terms 6: "(what is missing is alike with nothing)": not with what is missing, either
    private static void whatIsMissing() {
        int[] keys = {2, 3, 5};
        for (int told = 0; told <= 2; told++) {
            Desk d = new Desk();
            int[][] facts = {{1800, 0, 0}, {NONE, NONE, NONE}};
            int[] one = facts[told == 0 ? 0 : 1];
            int[] other = facts[told == 1 ? 0 : 1];
            d.row(0, "a", one[0], one[1], one[2]);
            d.row(1, "a", other[0], other[1], other[2]);
            for (int key : keys) {
                meets(told == 2 ? "missing in both" : "missing in one", d, key, false);
            }
            meets("by what is never missing", d, 1, true);
        }
    }

    private static void pairsOfNoneAndAll() {
        OneSelf x = new OneSelf();
        due.is("no ROWS", x.pairs(63), 0);
        Desk d = new Desk();
        d.row(0, "a");
        due.is("one ROW", d.x.pairs(63), 0);
        for (int row = 1; row <= 35; row++) {
            d.row(row % 3, "a", 1500, 0, 0);
        }
        due.is("36 ROWS", d.x.pairs(63), 3 * 12 * 12);
        due.is("36 ROWS, by the last KEY", d.x.pairs(32), 3 * 12 * 12 - 24);
        due.is("36 ROWS, by none", d.x.pairs(0), 0);
    }

    // Terms 6: "Two KNOWN ROWS"
    private static void pairsOfKnownRows() {
        Desk d = pair("a", "a");
        d.x.pass(1);
        d.x.takeBack(1);
        due.is("one taken back", d.x.pairs(1), 0);
        d.x.asOf(0);
        due.is("as of the DAY before", d.x.pairs(1), 1);
    }

    // Promise 34: with nothing to be met no KEYS do, and they have the fewest pairs
    private static void keysOfNothing() {
        due.is("no ROWS", new OneSelf().keys(), 0);
        Desk d = pair("a", "a");
        due.is("no CHECKED pairs", d.x.keys(), 0);
        d.x.check(0, 1, true);
        due.is("one", d.x.keys(), 1);
        d.x.check(0, 1, false);
        due.is("one that is not one person", d.x.keys(), 0);
    }

    // Terms 6: "NONE: not even all KEYS do."
    private static void notEvenAllKeys() {
        Desk d = pair("ab", "cd");
        d.x.check(0, 1, true);
        due.is("the only pair", d.x.keys(), NONE);
        d.row(0, "x");
        d.row(1, "x");
        d.x.check(2, 3, true);
        due.is("one of two", d.x.keys(), NONE);
        d.x.check(1, 0, false);
        due.is("the other alone", d.x.keys(), 1);
    }

    // Terms 6: "that are one person"
    private static void onlyWhatIsOnePerson() {
        Desk d = pair("ab", "cd");
        d.x.check(0, 1, false);
        due.is("not one person", d.x.keys(), 0);
    }

    // Terms 6: "of unlike REGISTERS"
    private static void onlyUnlikeRegisters() {
        Desk d = new Desk();
        d.row(1, "ab");
        d.row(1, "cd");
        d.x.check(0, 1, true);
        due.is("of one REGISTER", d.x.keys(), 0);
    }

    // Terms 6: "of KNOWN ROWS"
    private static void onlyKnownRows() {
        Desk d = pair("ab", "cd");
        d.x.check(0, 1, true);
        d.x.pass(1);
        d.x.takeBack(0);
        due.is("one taken back", d.x.keys(), 0);
        d.x.asOf(0);
        due.is("as of the DAY before", d.x.keys(), NONE);
    }

    // Terms 6: "and the fewest pairs in all"
    private static void theFewestPairs() {
        Desk d = new Desk();
        d.row(0, "ax", 1800, 0, NONE);
        d.row(1, "ay", 1800, 0, NONE);
        d.row(2, "az", 1900, 0, NONE);
        d.x.check(0, 1, true);
        due.is("pairs by first letter", d.x.pairs(2), 3);
        due.is("pairs by PLACE", d.x.pairs(8), 3);
        due.is("pairs by YEAR", d.x.pairs(4), 1);
        due.is("the YEAR", d.x.keys(), 4);
        d.row(1, "b", 1805, NONE, NONE);
        d.row(1, "c", 1806, NONE, NONE);
        due.is("as many by YEAR now", d.x.pairs(4), 3);
        due.is("the first letter", d.x.keys(), 2);
    }

    // Terms 6: "of like ones the fewest KEYS"
    private static void ofLikeOnesTheFewestKeys() {
        Desk d = new Desk();
        d.row(0, "ax", 1800, 0, NONE);
        d.row(1, "ay", 1810, 0, NONE);
        d.row(0, "bx", 1900, 1, NONE);
        d.row(1, "cy", 1909, 1, NONE);
        d.x.check(0, 1, true);
        d.x.check(2, 3, true);
        due.is("by first letter and YEAR", d.x.pairs(6), 2);
        due.is("by PLACE", d.x.pairs(8), 2);
        due.is("one KEY, though more as bits", d.x.keys(), 8);
    }

    // Terms 6: "then the least as bits"
    private static void thenTheLeastAsBits() {
        Desk d = new Desk();
        d.row(0, "ab", 1800, 0, 0);
        d.row(1, "ab", 1800, 0, 0);
        d.x.check(0, 1, true);
        due.is("each KEY does", d.x.keys(), 1);
        Desk e = new Desk();
        e.row(0, "ab", 1800, 0, 0);
        e.row(1, "cb", 1800, 0, 0);
        e.x.check(0, 1, true);
        due.is("2, 3 and 4 do", e.x.keys(), 4);
        Desk f = new Desk();
        f.row(0, "ab", NONE, NONE, 0);
        f.row(1, "cb", NONE, NONE, 0);
        f.x.check(0, 1, true);
        due.is("4 alone does", f.x.keys(), 16);
    }

    private static void fortyChecksOf36Rows() {
        Desk d = new Desk();
        for (int row = 0; row <= 35; row++) {
            d.row(row % 3, "a", 1999, 7, 1);
        }
        int n = 0;
        for (int a = 0; a <= 35; a++) {
            for (int b = a + 1; b <= 35 && n < 40; b++) {
                if (a % 3 != b % 3) {
                    n = d.x.check(b, a, true);
                }
            }
        }
        due.is("40 CHECKED", d.x.count(6), 40);
        due.is("the SOUND", d.x.keys(), 1);
        due.is("its pairs", d.x.pairs(1), 432);
    }
}
