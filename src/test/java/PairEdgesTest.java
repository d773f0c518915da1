/**
 * The edges that the document names of levels, points, scores, chances, odds and belief: promises 14
 * to 19 and their terms. Each method is one sentence, or the part of one that names an edge.
 */
public final class PairEdgesTest {
    private static final int NONE = Desk.NONE, BAD = Desk.BAD;
    private static final int LEAST = Integer.MIN_VALUE, MOST = Integer.MAX_VALUE;
    private static final long LEAST_LONG = Long.MIN_VALUE;
    private static final Due due = new Due();

    public static void main(String[] args) {
        levelsOfNames();
        levelsOfNamesThatSoundAlike();
        levelsOfYears();
        yearsAtTheEnds();
        levelsOfPlaces();
        levelsOfSorts();
        missingInOneOfBoth();
        fieldsAreZeroTo3();
        noPairForALevel();
        pointsAre100AtMost();
        pointsOfFieldsAndLevels();
        scoreOfWhatIsNotMissing();
        leastAndGreatestScore();
        noPairForAScore();
        chancesAre1To1000();
        chancesOfFieldsAndLevels();
        oddsInLowestTerms();
        greatestAndLeastOdds();
        oddsOfWhatIsNotMissing();
        oddsRefused();
        beliefAhead();
        beliefRoundedDown();
        beliefNextToNoneAndAll();
        noPairForBelief();
        due.end();
    }

    private static void nameLevel(String one, String other, int want) {
        Desk d = new Desk();
        d.row(0, one);
        d.row(0, other);
        due.is("level of " + one + ", " + other, d.x.level(0, 1, 0), want);
        due.is("level of " + other + ", " + one, d.x.level(1, 0, 0), want);
    }

    // Terms 3: "NAME: 0 no SLIPS, 1 one, 2 two, .. 3 else."
    private static void levelsOfNames() {
        nameLevel("a", "a", 0);
        nameLevel("a", "b", 1);
        nameLevel("abcdefghij", "bacdefghij", 1);
        nameLevel("a", "abc", 2);
        nameLevel("ab", "cd", 2);
        nameLevel("a", "abcd", 3);
        nameLevel("abc", "def", 3);
        nameLevel("abcdefghij", "klmnopqrst", 3);
    }

    // Terms 3: "2 two, or they SOUND alike"
    private static void levelsOfNamesThatSoundAlike() {
        nameLevel("ab", "abbbbbbbbb", 2);
        nameLevel("ab", "abb", 1);
        Desk d = new Desk();
        d.row(0, "axxx");
        d.row(0, "ayyy");
        due.is("three SLIPS", d.x.level(0, 1, 0), 3);
        d.sounds("xy=0");
        due.is("three SLIPS that are left out", d.x.level(0, 1, 0), 2);
        d.sounds("xy=4");
        due.is("three SLIPS of one group", d.x.level(0, 1, 0), 2);
        d.sounds("xy=4;");
        due.is("three SLIPS, with a FAULT", d.x.level(0, 1, 0), 3);
        d.sounds("x=4;y=5");
        due.is("three SLIPS of two groups", d.x.level(0, 1, 0), 3);
    }

    private static void yearLevel(int one, int other, int want) {
        Desk d = new Desk();
        d.row(0, "a", one, NONE, NONE);
        d.row(0, "a", other, NONE, NONE);
        due.is("level of " + one + ", " + other, d.x.level(0, 1, 1), want);
        due.is("level of " + other + ", " + one, d.x.level(1, 0, 1), want);
    }

    // Terms 3: "YEAR: 0 the same, 1 apart by 1, 2 by 5 or less, 3 else."
    private static void levelsOfYears() {
        int[] want = {0, 1, 2, 2, 2, 2, 3, 3, 3, 3, 3};
        for (int apart = 0; apart <= 10; apart++) {
            yearLevel(1800, 1800 + apart, want[apart]);
        }
    }

    private static void yearsAtTheEnds() {
        yearLevel(1500, 1500, 0);
        yearLevel(1999, 1999, 0);
        yearLevel(1500, 1999, 3);
        yearLevel(1994, 1999, 2);
        yearLevel(1500, 1506, 3);
        yearLevel(1500, NONE, NONE);
    }

    // Terms 3: "PLACE: 0 the same, 1 WAY 5 or less, 2 WAY 20 or less, 3 else."
    private static void levelsOfPlaces() {
        Desk d = new Desk();
        d.row(0, "a", NONE, 0, NONE);
        d.row(0, "a", NONE, 7, NONE);
        d.row(0, "a", NONE, 7, NONE);
        due.is("the same", d.x.level(1, 2, 2), 0);
        due.is("WAY 50, as at first", d.x.level(0, 1, 2), 3);
        int[][] want = {{0, 1}, {1, 1}, {5, 1}, {6, 2}, {20, 2}, {21, 3}, {99, 3}};
        for (int[] w : want) {
            d.x.way(7, 0, w[0]);
            due.is("WAY " + w[0], d.x.level(0, 1, 2), w[1]);
            due.is("WAY " + w[0] + ", back", d.x.level(1, 0, 2), w[1]);
            due.is("the same, whatever the WAYS", d.x.level(1, 2, 2), 0);
        }
    }

    // Terms 3: "SORT: 0 the same, 3 else."
    private static void levelsOfSorts() {
        int[][] want = {{0, 0, 0}, {1, 1, 0}, {0, 1, 3}, {1, 0, 3}};
        for (int[] w : want) {
            Desk d = new Desk();
            d.row(0, "a", NONE, NONE, w[0]);
            d.row(0, "a", NONE, NONE, w[1]);
            due.is("SORTS " + w[0] + ", " + w[1], d.x.level(0, 1, 3), w[2]);
        }
    }

    // Terms 3: "NONE, where it is missing in one of both."
    private static void missingInOneOfBoth() {
        Desk d = new Desk();
        d.row(0, "a", 1800, 0, 0);
        d.row(1, "a");
        d.row(2, "a");
        for (int field = 1; field <= 3; field++) {
            due.is("field " + field + " missing in the second", d.x.level(0, 1, field), NONE);
            due.is("field " + field + " missing in the first", d.x.level(1, 0, field), NONE);
            due.is("field " + field + " missing in both", d.x.level(1, 2, field), NONE);
        }
        due.is("a NAME is never missing", d.x.level(1, 2, 0), 0);
    }

    // Terms 3: "FIELDS 0 NAME, 1 YEAR, 2 PLACE, 3 SORT."
    private static void fieldsAreZeroTo3() {
        Desk d = new Desk();
        d.row(0, "a", 1800, 0, 0);
        d.row(1, "b", 1802, 1, 1);
        int[] none = {LEAST, -1, 4, MOST};
        for (int field : none) {
            due.is("level of field " + field, d.x.level(0, 1, field), BAD);
        }
        int[] want = {1, 2, 3, 3};
        for (int field = 0; field <= 3; field++) {
            due.is("level of field " + field, d.x.level(0, 1, field), want[field]);
        }
    }

    private static final int[][] NO_PAIRS = {
        {0, 0}, {1, 1}, {0, 2}, {2, 0}, {2, 2}, {0, -1}, {-1, 0}, {-1, -1}, {0, LEAST}, {LEAST, 0}, {0, MOST}, {MOST, 0},
    };

    // Promise 14: "BAD: also a ROW with itself."
    private static void noPairForALevel() {
        due.is("without ROWS", new OneSelf().level(0, 1, 0), BAD);
        Desk d = new Desk();
        d.row(0, "a");
        d.row(1, "a");
        for (int[] p : NO_PAIRS) {
            due.is("level(" + p[0] + ", " + p[1] + ", 0)", d.x.level(p[0], p[1], 0), BAD);
            due.is("level(" + p[0] + ", " + p[1] + ", 1), missing", d.x.level(p[0], p[1], 1), BAD);
        }
        for (int row = 2; row <= 35; row++) {
            d.row(0, "b");
        }
        due.is("level(0, 35, 0)", d.x.level(0, 35, 0), 1);
        due.is("level(35, 34, 0)", d.x.level(35, 34, 0), 0);
        due.is("level(0, 36, 0)", d.x.level(0, 36, 0), BAD);
    }

    // Terms 3: "POINTS .. (-100 to 100"; promise 15: "BAD: -1000."
    private static void pointsAre100AtMost() {
        OneSelf x = new OneSelf();
        int[] none = {LEAST, -1000, -101, 101, 1000, MOST};
        for (int p : none) {
            due.is("points(0, 0, " + p + ")", x.points(0, 0, p), -1000);
        }
        due.is("what they were at first", x.points(0, 0, -100), 20);
        due.is("-100 they were", x.points(0, 0, 100), -100);
        due.is("100 they were", x.points(0, 0, 0), 100);
    }

    // Terms 3: "of FIELDS and LEVELS .. at first 20, 10, 0, -20 for LEVELS 0 to 3"
    private static void pointsOfFieldsAndLevels() {
        OneSelf x = new OneSelf();
        int[] none = {LEAST, -1, 4, MOST};
        for (int k : none) {
            due.is("points(" + k + ", 0, 0)", x.points(k, 0, 0), -1000);
            due.is("points(0, " + k + ", 0)", x.points(0, k, 0), -1000);
            due.is("points(" + k + ", " + k + ", 101)", x.points(k, k, 101), -1000);
        }
        int[] first = {20, 10, 0, -20};
        for (int k = 0; k < 16; k++) {
            due.is("POINTS of " + k / 4 + ", " + k % 4 + " at first", x.points(k / 4, k % 4, k), first[k % 4]);
        }
        for (int k = 0; k < 16; k++) {
            due.is("POINTS of " + k / 4 + ", " + k % 4 + " then", x.points(k / 4, k % 4, 0), k);
        }
    }

    // Terms 3: "POINTS of all FIELDS that are not missing, together"
    private static void scoreOfWhatIsNotMissing() {
        for (int missing = 0; missing < 8; missing++) {
            Desk d = new Desk();
            for (int row = 0; row < 2; row++) {
                int year = (missing & 1) != 0 && row == 0 ? NONE : 1800;
                int place = (missing & 2) != 0 && row == 1 ? NONE : 3;
                d.row(row, "a", year, place, (missing & 4) != 0 ? NONE : 1);
            }
            d.x.points(0, 0, 1);
            d.x.points(1, 0, 2);
            d.x.points(2, 0, 4);
            d.x.points(3, 0, 8);
            due.is("score, missing " + missing, d.x.score(0, 1), 15 - 2 * missing);
        }
    }

    private static Desk alikeAndUnlike() {
        Desk d = new Desk();
        d.row(0, "aaaa", 1800, 0, 0);
        d.row(1, "aaaa", 1800, 0, 0);
        d.row(2, "bbbb", 1900, 1, 1);
        return d;
    }

    private static void leastAndGreatestScore() {
        Desk d = alikeAndUnlike();
        for (int field = 0; field <= 3; field++) {
            d.x.points(field, 0, 100);
            d.x.points(field, 3, -100);
        }
        due.is("the greatest", d.x.score(0, 1), 400);
        due.is("the least", d.x.score(0, 2), -400);
    }

    // Promise 16: "BAD: -1000."
    private static void noPairForAScore() {
        due.is("without ROWS", new OneSelf().score(0, 1), -1000);
        Desk d = new Desk();
        d.row(0, "a");
        d.row(1, "a");
        for (int[] p : NO_PAIRS) {
            due.is("score(" + p[0] + ", " + p[1] + ")", d.x.score(p[0], p[1]), -1000);
        }
        due.is("score(0, 1)", d.x.score(0, 1), 20);
    }

    // Terms 3: "(m, 1 to 1000", "(u, 1 to 1000"
    private static void chancesAre1To1000() {
        boolean[] both = {true, false};
        int[] none = {LEAST, -1, 0, 1001, MOST};
        for (boolean one : both) {
            OneSelf x = new OneSelf();
            for (int c : none) {
                due.is("chance(" + one + ", 3, 0, " + c + ")", x.chance(one, 3, 0, c), BAD);
            }
            due.is("what they were at first", x.chance(one, 3, 0, 1), one ? 700 : 20);
            due.is("1 they were", x.chance(one, 3, 0, 1000), 1);
            due.is("1000 they were", x.chance(one, 3, 0, 5), 1000);
            due.is("the others are untouched", x.chance(!one, 3, 0, 5), one ? 20 : 700);
        }
    }

    // Promise 17: CHANCES of FIELDS 0 to 3 and LEVELS 0 to 3, "BAD."
    private static void chancesOfFieldsAndLevels() {
        OneSelf x = new OneSelf();
        int[] none = {LEAST, -1, 4, MOST};
        for (int k : none) {
            due.is("chance(true, " + k + ", 0, 1)", x.chance(true, k, 0, 1), BAD);
            due.is("chance(false, 0, " + k + ", 1)", x.chance(false, 0, k, 1), BAD);
            due.is("chance(true, 0, " + k + ", 0)", x.chance(true, 0, k, 0), BAD);
        }
        int[] m = {700, 200, 80, 20};
        int[] u = {20, 80, 200, 700};
        for (int k = 0; k < 16; k++) {
            due.is("m of " + k / 4 + ", " + k % 4, x.chance(true, k / 4, k % 4, k + 1), m[k % 4]);
            due.is("u of " + k / 4 + ", " + k % 4, x.chance(false, k / 4, k % 4, k + 101), u[k % 4]);
        }
        for (int k = 0; k < 16; k++) {
            due.is("m of " + k / 4 + ", " + k % 4 + " then", x.chance(true, k / 4, k % 4, 1), k + 1);
            due.is("u of " + k / 4 + ", " + k % 4 + " then", x.chance(false, k / 4, k % 4, 1), k + 101);
        }
    }

    private static void nameChances(Desk d, int m, int u) {
        d.x.chance(true, 0, 0, m);
        d.x.chance(false, 0, 0, u);
    }

    private static void oddsAre(String what, Desk d, int a, int b, long above, long below) {
        due.is("above, " + what, d.x.odds(a, b, 0), above);
        due.is("below, " + what, d.x.odds(a, b, 1), below);
    }

    // Terms 3: "as a fraction in lowest terms"
    private static void oddsInLowestTerms() {
        Desk d = new Desk();
        d.row(0, "a");
        d.row(1, "a");
        int[][] want = {
            {1, 1, 1, 1}, {1000, 1000, 1, 1}, {1000, 1, 1000, 1}, {1, 1000, 1, 1000}, {999, 1000, 999, 1000},
            {500, 1000, 1, 2}, {1000, 500, 2, 1}, {6, 9, 2, 3}, {997, 991, 997, 991},
        };
        for (int[] w : want) {
            nameChances(d, w[0], w[1]);
            oddsAre(w[0] + " by " + w[1], d, 0, 1, w[2], w[3]);
        }
    }

    private static void greatestAndLeastOdds() {
        Desk d = alikeAndUnlike();
        for (int field = 0; field <= 3; field++) {
            d.x.chance(true, field, 0, 1000);
            d.x.chance(false, field, 0, 1);
            d.x.chance(true, field, 3, 1);
            d.x.chance(false, field, 3, 1000);
        }
        oddsAre("the greatest", d, 0, 1, 1000000000000L, 1);
        oddsAre("the least", d, 0, 2, 1, 1000000000000L);
        for (int field = 0; field <= 3; field++) {
            d.x.chance(true, field, 0, 1000);
            d.x.chance(false, field, 0, 999);
            d.x.chance(true, field, 3, 1000);
            d.x.chance(false, field, 3, 1000);
        }
        oddsAre("great on both sides", d, 0, 1, 1000000000000L, 996005996001L);
        oddsAre("the greatest on both sides", d, 0, 2, 1, 1);
    }

    // Terms 3: "of all FIELDS that are not missing, multiplied"
    private static void oddsOfWhatIsNotMissing() {
        Desk d = new Desk();
        d.row(0, "a", 1800, 1, 0);
        d.row(1, "a", NONE, NONE, NONE);
        d.row(2, "a", 1800, NONE, NONE);
        oddsAre("NAME alone", d, 0, 1, 35, 1);
        oddsAre("NAME and YEAR", d, 0, 2, 1225, 1);
        oddsAre("YEAR missing in the other", d, 2, 1, 35, 1);
    }

    // Promise 18: "above (what = 0), below (1). BAD: the least long."
    private static void oddsRefused() {
        due.is("without ROWS", new OneSelf().odds(0, 1, 0), LEAST_LONG);
        Desk d = new Desk();
        d.row(0, "a");
        d.row(1, "a");
        for (int[] p : NO_PAIRS) {
            due.is("odds(" + p[0] + ", " + p[1] + ", 0)", d.x.odds(p[0], p[1], 0), LEAST_LONG);
            due.is("odds(" + p[0] + ", " + p[1] + ", 1)", d.x.odds(p[0], p[1], 1), LEAST_LONG);
        }
        int[] none = {LEAST, -1, 2, MOST};
        for (int what : none) {
            due.is("odds(0, 1, " + what + ")", d.x.odds(0, 1, what), LEAST_LONG);
        }
        oddsAre("of the pair", d, 0, 1, 35, 1);
    }

    // Terms 3: "(p 1 to 1000, q above p to 100000)"
    private static void beliefAhead() {
        Desk d = new Desk();
        d.row(0, "a");
        d.row(1, "a");
        nameChances(d, 1, 1);
        int[][] bad = {
            {0, 1}, {0, 2}, {-1, 5}, {LEAST, 5}, {1001, 1002}, {1001, 100000}, {MOST, 100000}, {1, 1}, {1, 0}, {1, -1},
            {1, LEAST}, {1, 100001}, {1, MOST}, {1000, 1000}, {1000, 999}, {1000, 100001}, {500, 500}, {MOST, LEAST},
            {0, 0}, {MOST, MOST}, {LEAST, LEAST}, {LEAST, MOST},
        };
        for (int[] c : bad) {
            due.is("belief with " + c[0] + " of " + c[1], d.x.belief(0, 1, c[0], c[1]), BAD);
        }
        due.is("1 of 2", d.x.belief(0, 1, 1, 2), 500000);
        due.is("1 of 100000", d.x.belief(0, 1, 1, 100000), 10);
        due.is("1000 of 1001", d.x.belief(0, 1, 1000, 1001), 999000);
        due.is("1000 of 100000", d.x.belief(0, 1, 1000, 100000), 10000);
    }

    // Terms 3: "in millionths, rounded down"
    private static void beliefRoundedDown() {
        Desk d = new Desk();
        d.row(0, "a");
        d.row(1, "a");
        nameChances(d, 1, 1);
        due.is("a third", d.x.belief(0, 1, 1, 3), 333333);
        due.is("two thirds", d.x.belief(0, 1, 2, 3), 666666);
        due.is("six sevenths: 857142.86", d.x.belief(0, 1, 6, 7), 857142);
        due.is("1000 by 1001: 999000.999", d.x.belief(0, 1, 1000, 1001), 999000);
        due.is("a half, without a rest", d.x.belief(0, 1, 500, 1000), 500000);
        nameChances(d, 1, 10);
        due.is("1 by 999991: 1.000009", d.x.belief(0, 1, 1, 100000), 1);
        nameChances(d, 1, 11);
        due.is("1 by 1099990: less than a millionth", d.x.belief(0, 1, 1, 100000), 0);
    }

    private static void beliefNextToNoneAndAll() {
        Desk d = alikeAndUnlike();
        for (int field = 0; field <= 3; field++) {
            d.x.chance(true, field, 0, 1000);
            d.x.chance(false, field, 0, 1);
            d.x.chance(true, field, 3, 1);
            d.x.chance(false, field, 3, 1000);
        }
        due.is("the greatest is no million", d.x.belief(0, 1, 1000, 1001), 999999);
        // 10 ^ 12 by 10 ^ 12 and 99999
        due.is("of the greatest odds, with 1 of 100000", d.x.belief(0, 1, 1, 100000), 999999);
        due.is("the least", d.x.belief(0, 2, 1, 100000), 0);
        due.is("of the least odds, with 1000 of 1001", d.x.belief(0, 2, 1000, 1001), 0);
        for (int field = 0; field <= 3; field++) {
            d.x.chance(false, field, 0, 1000);
        }
        due.is("as great as they can be on both sides", d.x.belief(0, 1, 1000, 100000), 10000);
    }

    // Promise 19: "BAD."
    private static void noPairForBelief() {
        due.is("without ROWS", new OneSelf().belief(0, 1, 1, 2), BAD);
        Desk d = new Desk();
        d.row(0, "a");
        d.row(1, "a");
        for (int[] p : NO_PAIRS) {
            due.is("belief(" + p[0] + ", " + p[1] + ", 1, 2)", d.x.belief(p[0], p[1], 1, 2), BAD);
        }
        due.is("belief(1, 0, 1, 2)", d.x.belief(1, 0, 1, 2), 972222);
    }
}
