/** Promises 14 to 19: levels, points, scores, chances, odds, belief. */
public final class PairsTest {
    private static final int NONE = Desk.NONE, BAD = Desk.BAD;
    private static final Due due = new Due();

    public static void main(String[] args) {
        levelOfNames();
        levelOfYears();
        levelOfPlaces();
        levelOfSorts();
        levelRefused();
        points();
        score();
        chance();
        odds();
        belief();
        due.end();
    }

    // Promise 14
    private static void levelOfNames() {
        Desk d = new Desk();
        String[] names = {"meier", "meier", "meyer", "mayer", "maierk", "miiiiiiir", "schmidt"};
        for (String name : names) {
            d.row(0, name);
        }
        int[] want = {0, 0, 1, 2, 2, 3, 3};
        for (int b = 1; b < names.length; b++) {
            due.is("name level of meier, " + names[b], d.x.level(0, b, 0), want[b]);
            due.is("name level of " + names[b] + ", meier", d.x.level(b, 0, 0), want[b]);
        }
        d.sounds("ei=0");
        due.is("many slips that sound alike", d.x.level(0, 5, 0), 2);
        due.is("one slip that sounds alike, or not", d.x.level(0, 2, 0), 1);
        due.is("no slips", d.x.level(0, 1, 0), 0);
        due.is("many slips that do not sound alike", d.x.level(0, 6, 0), 3);
        d.x.type(';');
        due.is("with a fault they do not", d.x.level(0, 5, 0), 3);
        d.row(0, "abbbb");
        d.row(0, "accccc");
        d.sounds("b=1;c=1");
        due.is("like signs", d.x.level(7, 8, 0), 2);
        d.row(0, "bbbba");
        d.row(0, "cccca");
        due.is("unlike first letters", d.x.level(9, 10, 0), 3);
        d.row(0, "abcdefg");
        d.row(0, "abcdxyz");
        d.sounds("efgxyz=0;abcd=2");
        due.is("longer names", d.x.level(11, 12, 0), 2);
        d.sounds("efgxy=0;abcd=2");
        due.is("a sign more", d.x.level(11, 12, 0), 3);
    }

    private static void levelOfYears() {
        Desk d = new Desk();
        int[] years = {1800, 1800, 1801, 1799, 1802, 1798, 1805, 1795, 1806, 1794, 1999, NONE};
        int[] want = {0, 0, 1, 1, 2, 2, 2, 2, 3, 3, 3, NONE};
        for (int year : years) {
            d.row(0, "a", year, NONE, NONE);
        }
        for (int b = 1; b < years.length; b++) {
            due.is("level of 1800, " + years[b], d.x.level(0, b, 1), want[b]);
            due.is("level of " + years[b] + ", 1800", d.x.level(b, 0, 1), want[b]);
        }
        d.row(0, "a");
        due.is("both missing", d.x.level(11, 12, 1), NONE);
    }

    private static void levelOfPlaces() {
        Desk d = new Desk();
        for (int place = -1; place < 8; place++) {
            d.row(0, "a", NONE, place, NONE);
        }
        d.row(0, "a", NONE, 0, NONE);
        int[] ways = {0, 5, 6, 20, 21, 99};
        int[] want = {1, 1, 2, 2, 3, 3};
        for (int place = 1; place < 7; place++) {
            d.x.way(0, place, ways[place - 1]);
            due.is("level with a way of " + ways[place - 1], d.x.level(1, place + 1, 2), want[place - 1]);
            due.is("level back", d.x.level(place + 1, 1, 2), want[place - 1]);
        }
        due.is("level with the first way", d.x.level(1, 8, 2), 3);
        due.is("the same place", d.x.level(1, 9, 2), 0);
        due.is("missing", d.x.level(0, 1, 2), NONE);
        due.is("missing in the second", d.x.level(1, 0, 2), NONE);
        d.row(0, "a");
        due.is("missing in both", d.x.level(0, 10, 2), NONE);
    }

    private static void levelOfSorts() {
        Desk d = new Desk();
        int[] sorts = {0, 0, 1, 1, NONE, NONE};
        for (int sort : sorts) {
            d.row(0, "a", NONE, NONE, sort);
        }
        for (int a = 0; a < 6; a++) {
            for (int b = 0; b < 6; b++) {
                if (a == b) continue;
                int want = sorts[a] == NONE || sorts[b] == NONE ? NONE : sorts[a] == sorts[b] ? 0 : 3;
                due.is("sort level(" + a + ", " + b + ")", d.x.level(a, b, 3), want);
            }
        }
    }

    private static void levelRefused() {
        Desk d = new Desk();
        d.row(0, "a");
        d.row(1, "b");
        due.is("level(0, 0, 0)", d.x.level(0, 0, 0), BAD);
        due.is("level(0, 2, 0)", d.x.level(0, 2, 0), BAD);
        due.is("level(2, 0, 0)", d.x.level(2, 0, 0), BAD);
        due.is("level(-1, 0, 0)", d.x.level(-1, 0, 0), BAD);
        due.is("level(0, -1, 0)", d.x.level(0, -1, 0), BAD);
        due.is("level(0, 1, -1)", d.x.level(0, 1, -1), BAD);
        due.is("level(0, 1, 4)", d.x.level(0, 1, 4), BAD);
        due.is("level(0, 1, 0)", d.x.level(0, 1, 0), 1);
        d.x.takeBack(1);
        due.is("level of a row taken back", d.x.level(0, 1, 0), 1);
        due.is("score of a row taken back", d.x.score(0, 1), 10);
        due.is("odds of a row taken back", d.x.odds(0, 1, 0), 5);
    }

    // Promise 15
    private static void points() {
        OneSelf x = new OneSelf();
        due.is("points(3, 1, -100)", x.points(3, 1, -100), 10);
        due.is("points(3, 1, 100)", x.points(3, 1, 100), -100);
        due.is("points(3, 1, 0)", x.points(3, 1, 0), 100);
        due.is("points(3, 2, 7)", x.points(3, 2, 7), 0);
        due.is("points(2, 1, 7)", x.points(2, 1, 7), 10);
        due.is("points(0, 3, -2)", x.points(0, 3, -2), -20);
        due.is("points(0, 3, 1)", x.points(0, 3, 1), -2);
        int[][] bad = {{-1, 0, 0}, {4, 0, 0}, {0, -1, 0}, {0, 4, 0}, {3, 1, -101}, {3, 1, 101}};
        for (int[] c : bad) {
            due.is("points " + java.util.Arrays.toString(c), x.points(c[0], c[1], c[2]), -1000);
        }
        due.is("points(3, 1, 0) after refusals", x.points(3, 1, 0), 0);
    }

    // Promise 16
    private static void score() {
        Desk d = new Desk();
        d.row(0, "meier", 1800, 1, 0);
        d.row(1, "meyer", 1801, 1, 0);
        d.row(1, "schmidt", 1850, 2, 1);
        d.row(2, "meier");
        d.row(2, "meiers", 1804, NONE, 1);
        due.is("score(0, 1)", d.x.score(0, 1), 10 + 10 + 20 + 20);
        due.is("score(1, 0)", d.x.score(1, 0), 60);
        due.is("score(0, 2)", d.x.score(0, 2), -80);
        due.is("score(0, 3)", d.x.score(0, 3), 20);
        due.is("score(0, 4)", d.x.score(0, 4), 10 + 0 - 20);
        int[] points = {1, 2, 3, 4, 11, 12, 13, 14, 31, 32, 33, 34, 51, 52, 53, 54};
        for (int k = 0; k < 16; k++) {
            d.x.points(k / 4, k % 4, points[k]);
        }
        due.is("score(0, 1) by other points", d.x.score(0, 1), 2 + 12 + 31 + 51);
        due.is("score(0, 2) by other points", d.x.score(0, 2), 4 + 14 + 34 + 54);
        due.is("score(0, 4) by other points", d.x.score(0, 4), 2 + 13 + 54);
        due.is("score(0, 0)", d.x.score(0, 0), -1000);
        due.is("score(0, 5)", d.x.score(0, 5), -1000);
        due.is("score(5, 0)", d.x.score(5, 0), -1000);
        due.is("score(-1, 0)", d.x.score(-1, 0), -1000);
        due.is("score(0, -1)", d.x.score(0, -1), -1000);
        for (int k = 0; k < 16; k++) {
            d.x.points(k / 4, k % 4, k % 4 == 3 ? -100 : 100);
        }
        due.is("the least score", d.x.score(0, 2), -400);
        due.is("the greatest score", d.x.score(0, 1), 400);
    }

    // Promise 17
    private static void chance() {
        OneSelf x = new OneSelf();
        due.is("chance(true, 0, 0, 1)", x.chance(true, 0, 0, 1), 700);
        due.is("chance(false, 0, 0, 1000)", x.chance(false, 0, 0, 1000), 20);
        due.is("chance(true, 0, 0, 2)", x.chance(true, 0, 0, 2), 1);
        due.is("chance(false, 0, 0, 3)", x.chance(false, 0, 0, 3), 1000);
        due.is("chance(true, 3, 3, 5)", x.chance(true, 3, 3, 5), 20);
        due.is("chance(false, 3, 3, 6)", x.chance(false, 3, 3, 6), 700);
        due.is("chance(true, 2, 3, 5)", x.chance(true, 2, 3, 5), 20);
        int[][] bad = {{-1, 0, 1}, {4, 0, 1}, {0, -1, 1}, {0, 4, 1}, {0, 0, 0}, {0, 0, 1001}, {0, 0, -5}};
        for (int[] c : bad) {
            due.is("chance of one " + java.util.Arrays.toString(c), x.chance(true, c[0], c[1], c[2]), BAD);
            due.is("chance of not " + java.util.Arrays.toString(c), x.chance(false, c[0], c[1], c[2]), BAD);
        }
        due.is("chance(true, 0, 0, 2) after refusals", x.chance(true, 0, 0, 2), 2);
        due.is("chance(false, 0, 0, 3) after refusals", x.chance(false, 0, 0, 3), 3);
    }

    // Promise 18
    private static void odds() {
        Desk d = new Desk();
        d.row(0, "meier", 1800, 1, 0);
        d.row(1, "meyer", 1801, 1, 0);
        d.row(1, "schmidt", 1850, 2, 1);
        d.row(2, "meier");
        // 200 200 700 700 by 80 80 20 20
        due.is("odds(0, 1) above", d.x.odds(0, 1, 0), 30625);
        due.is("odds(0, 1) below", d.x.odds(0, 1, 1), 4);
        due.is("odds(1, 0) above", d.x.odds(1, 0, 0), 30625);
        due.is("odds(0, 2) above", d.x.odds(0, 2, 0), 1);
        due.is("odds(0, 2) below", d.x.odds(0, 2, 1), 1500625);
        due.is("odds(0, 3) above", d.x.odds(0, 3, 0), 35);
        due.is("odds(0, 3) below", d.x.odds(0, 3, 1), 1);
        for (int field = 0; field < 4; field++) {
            d.x.chance(true, field, 3, 1000);
            d.x.chance(false, field, 3, 997 - 2 * field);
        }
        due.is("the greatest above", d.x.odds(0, 2, 0), 200000000000L);
        due.is("the greatest below", d.x.odds(0, 2, 1), 997L * 199 * 993 * 991);
        for (int field = 0; field < 4; field++) {
            d.x.chance(true, field, 3, 999);
            d.x.chance(false, field, 3, 1000);
        }
        due.is("no common divisor, above", d.x.odds(0, 2, 0), 999L * 999 * 999 * 999);
        due.is("no common divisor, below", d.x.odds(0, 2, 1), 1000000000000L);
        d.x.chance(true, 0, 0, 6);
        d.x.chance(false, 0, 0, 6);
        due.is("even odds above", d.x.odds(0, 3, 0), 1);
        due.is("even odds below", d.x.odds(0, 3, 1), 1);
        int[][] bad = {{0, 0, 0}, {0, 4, 0}, {4, 0, 0}, {-1, 0, 1}, {0, -1, 1}, {0, 1, -1}, {0, 1, 2}};
        for (int[] c : bad) {
            due.is("odds " + java.util.Arrays.toString(c), d.x.odds(c[0], c[1], c[2]), Long.MIN_VALUE);
        }
    }

    // Promise 19
    private static void belief() {
        Desk d = new Desk();
        d.row(0, "meier", 1800, 1, 0);
        d.row(1, "meier", 1850, 2, 1);
        d.row(2, "meier");
        due.is("35 to 1, 1 of 2", d.x.belief(0, 2, 1, 2), 972222);
        due.is("35 to 1, 1 of 36", d.x.belief(0, 2, 1, 36), 500000);
        due.is("35 to 1, 1 of 100000", d.x.belief(0, 2, 1, 100000), 349);
        due.is("35 to 1, 999 of 1000", d.x.belief(0, 2, 999, 1000), 999971);
        due.is("35 to 1, 1000 of 1001", d.x.belief(0, 2, 1000, 1001), 999971);
        due.is("belief(2, 0, 1, 2)", d.x.belief(2, 0, 1, 2), 972222);
        // 35 by 35 to the third: 1 by 1225
        due.is("1 to 1225, 1 of 2", d.x.belief(0, 1, 1, 2), 815);
        d.x.chance(true, 0, 0, 1);
        d.x.chance(false, 0, 0, 1);
        due.is("1 to 1, 1 of 3", d.x.belief(0, 2, 1, 3), 333333);
        due.is("1 to 1, 2 of 3", d.x.belief(0, 2, 2, 3), 666666);
        for (int field = 0; field < 4; field++) {
            d.x.chance(true, field, field == 0 ? 0 : 3, 1000);
            d.x.chance(false, field, field == 0 ? 0 : 3, 1000);
        }
        due.is("great numbers", d.x.belief(0, 1, 1000, 100000), 10000);
        due.is("great numbers, a little", d.x.belief(0, 1, 1, 100000), 10);
        d.x.chance(true, 0, 0, 1);
        due.is("next to none", d.x.belief(0, 1, 1, 100000), 0);
        d.x.chance(true, 0, 0, 1000);
        d.x.chance(false, 0, 0, 1);
        due.is("next to all", d.x.belief(0, 1, 1000, 1001), 999999);
        int[][] bad = {
            {0, 0, 1, 2}, {0, 3, 1, 2}, {3, 0, 1, 2}, {-1, 0, 1, 2}, {0, -1, 1, 2}, {0, 1, 0, 2}, {0, 1, -1, 2},
            {0, 1, 1001, 2000}, {0, 1, 5, 5}, {0, 1, 5, 4}, {0, 1, 5, 100001}, {0, 1, 1, 1},
            {0, 1, Integer.MAX_VALUE, Integer.MIN_VALUE}, {0, 1, 1, Integer.MAX_VALUE},
        };
        for (int[] c : bad) {
            due.is("belief " + java.util.Arrays.toString(c), d.x.belief(c[0], c[1], c[2], c[3]), BAD);
        }
    }
}
