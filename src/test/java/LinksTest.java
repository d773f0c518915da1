/** Promises 20 to 27: the line, links, layings, bundles, cuts. */
public final class LinksTest {
    private static final int NONE = Desk.NONE, BAD = Desk.BAD, NOT = Desk.NOT, FULL = Desk.FULL;
    private static final Due due = new Due();

    public static void main(String[] args) {
        line();
        links();
        laid();
        layLeastRows();
        layMoreForMore();
        layTenByTen();
        layTenByTwo();
        laidRefused();
        bundle();
        torn();
        cut();
        cutByWays();
        cutOfRandomGraphs();
        cutRefused();
        cutOfTwelve();
        due.end();
    }

    // Promise 20
    private static void line() {
        OneSelf x = new OneSelf();
        due.is("line(-400)", x.line(-400), 30);
        due.is("line(400)", x.line(400), -400);
        due.is("line(401)", x.line(401), -1000);
        due.is("line(-401)", x.line(-401), -1000);
        due.is("line(-2)", x.line(-2), 400);
        due.is("line(0)", x.line(0), -2);
    }

    // Promise 21
    private static void links() {
        Desk d = new Desk();
        due.is("links() without rows", d.x.links(), 0);
        d.x.line(-400);
        d.row(0, "anna");
        due.is("links() of one row", d.x.links(), 0);
        d.row(0, "anna");
        d.x.pass(1);
        d.row(1, "annb");
        d.row(2, "zzzz");
        due.is("links() of four", d.x.links(), 6);
        d.x.line(20);
        due.is("a score as great as the line, of one register too", d.x.links(), 1);
        d.x.line(21);
        due.is("a score below the line", d.x.links(), 0);
        d.x.line(10);
        due.is("links() at 10", d.x.links(), 3);
        d.x.asOf(0);
        due.is("links() as of day 0", d.x.links(), 1);
        d.x.asOf(NONE);
        d.x.takeBack(0);
        due.is("links() less a row", d.x.links(), 1);
    }

    // Promises 22 and 23
    private static void laid() {
        Desk d = new Desk();
        d.namesAlone();
        d.x.line(20);
        due.is("laid of no rows", d.x.laid(0, 1, 0), 0);
        due.is("laid of no rows, sum", d.x.laid(0, 1, 1), 0);
        d.row(0, "abcd");
        d.row(1, "abcd");
        d.row(1, "abce");
        d.row(0, "abcd");
        d.row(2, "abcd");
        d.row(0, "zzzz");
        // 0 and 3 have 81 with row 1 and 41 with row 2
        due.is("laid(0, 1, 0)", d.x.laid(0, 1, 0), 2);
        due.is("laid(0, 1, 1)", d.x.laid(0, 1, 1), 122);
        due.is("mate(0, 1)", d.x.mate(0, 1), 1);
        due.is("mate(3, 1)", d.x.mate(3, 1), 2);
        due.is("mate(5, 1)", d.x.mate(5, 1), NONE);
        due.is("laid(1, 0, 1)", d.x.laid(1, 0, 1), 122);
        due.is("mate(1, 0)", d.x.mate(1, 0), 0);
        due.is("mate(2, 0)", d.x.mate(2, 0), 3);
        due.is("laid(0, 2, 0)", d.x.laid(0, 2, 0), 1);
        due.is("mate(0, 2)", d.x.mate(0, 2), 4);
        due.is("mate(3, 2)", d.x.mate(3, 2), NONE);
        due.is("mate(4, 0)", d.x.mate(4, 0), 0);
        due.is("mate(4, 1)", d.x.mate(4, 1), 1);
        d.x.line(60);
        due.is("a link on the line counts 1", d.x.laid(0, 1, 1), 42);
        d.x.line(61);
        due.is("one row less", d.x.laid(0, 1, 0), 1);
        due.is("and its sum", d.x.laid(0, 1, 1), 40);
        due.is("mate(3, 1) by the higher line", d.x.mate(3, 1), NONE);
        d.x.line(20);
        d.x.takeBack(0);
        due.is("mate of the row that is left", d.x.mate(3, 1), 1);
        due.is("laid less a row", d.x.laid(0, 1, 1), 81);
        due.is("mate of a row taken back", d.x.mate(0, 1), BAD);
    }

    private static void layLeastRows() {
        Desk d = new Desk();
        d.x.line(20);
        for (int k = 0; k < 6; k++) {
            d.row(k % 2, "abcd");
        }
        for (int k = 0; k < 3; k++) {
            due.is("like ones: mate(" + 2 * k + ", 1)", d.x.mate(2 * k, 1), 2 * k + 1);
            due.is("like ones: mate(" + (2 * k + 1) + ", 0)", d.x.mate(2 * k + 1, 0), 2 * k);
        }
        d.row(0, "abcd");
        due.is("the last has none", d.x.mate(6, 1), NONE);
        due.is("the first has the least", d.x.mate(0, 1), 1);
        // each direction compares its own first rows first
        Desk e = new Desk();
        e.namesAlone();
        e.x.line(60);
        e.row(0, "aab");
        e.row(0, "abb");
        e.row(1, "bab");
        e.row(1, "aab");
        e.row(1, "abc");
        e.x.points(0, 0, 60);
        due.is("mate(0, 1): row 2 by one slip", e.x.mate(0, 1), 2);
        due.is("mate(1, 1): row 3", e.x.mate(1, 1), 3);
        due.is("mate(2, 0)", e.x.mate(2, 0), 0);
        due.is("mate(3, 0)", e.x.mate(3, 0), 1);
        due.is("mate(4, 0)", e.x.mate(4, 0), NONE);
        due.is("the sum", e.x.laid(0, 1, 1), 2);
        Desk f = new Desk();
        f.x.line(20);
        f.row(0, "abcd");
        f.row(0, "abcd");
        f.row(1, "abcd");
        due.is("the first row's compared first", f.x.mate(0, 1), 2);
        due.is("none is behind all", f.x.mate(1, 1), NONE);
        due.is("from the other register", f.x.mate(2, 0), 0);
    }

    /** One row of a great gain is left out for two of lesser, but not for too little. */
    private static void layMoreForMore() {
        Desk d = new Desk();
        d.namesAlone();
        d.x.line(60);
        d.row(0, "abcd");
        d.row(0, "abce");
        d.row(1, "abcd");
        d.row(1, "abcf");
        d.x.points(0, 0, 61);
        // 0-2 gains 2, 0-3, 1-2 and 1-3 gain 1
        due.is("both: 0 to 2, 1 to 3", d.x.laid(0, 1, 1), 3);
        due.is("mate(0, 1)", d.x.mate(0, 1), 2);
        Desk e = new Desk();
        e.namesAlone();
        e.x.line(20);
        e.row(0, "abcd");
        e.row(0, "abcxy");
        e.row(1, "abcdx");
        e.row(1, "abqdx");
        e.x.points(0, 1, 50);
        e.x.points(0, 2, 30);
        // 0-2: 31, 0-3: 11, 1-2: 31, 1-3: 11 or less
        due.is("e: level(0, 2)", e.x.level(0, 2, 0), 1);
        due.is("e: level(0, 3)", e.x.level(0, 3, 0), 2);
        due.is("e: level(1, 2)", e.x.level(1, 2, 0), 2);
        due.is("e: level(1, 3)", e.x.level(1, 3, 0), 3);
        due.is("e: the sum is of two crosswise, or one", e.x.laid(0, 1, 1), 31);
        due.is("e: one alone", e.x.laid(0, 1, 0), 1);
        due.is("e: mate(1, 1)", e.x.mate(1, 1), NONE);
        e.x.points(0, 2, 40);
        due.is("e: two crosswise are more", e.x.laid(0, 1, 1), 42);
        due.is("e: how many", e.x.laid(0, 1, 0), 2);
        due.is("e: mate(0, 1) crosswise", e.x.mate(0, 1), 3);
        due.is("e: mate(1, 1) crosswise", e.x.mate(1, 1), 2);
        e.x.points(0, 1, 51);
        e.x.points(0, 2, 35);
        // 32 alone, 16 and 16 crosswise: of like ones the least rows
        due.is("e: like sums", e.x.laid(0, 1, 1), 32);
        due.is("e: like sums, the first row's mate is the least", e.x.mate(0, 1), 2);
        due.is("e: like sums, so the second has none", e.x.laid(0, 1, 0), 1);
        due.is("e: from the other side", e.x.laid(1, 0, 0), 1);
    }

    private static void layTenByTen() {
        Desk d = new Desk();
        for (int k = 0; k < 20; k++) {
            d.row(k / 10, "abcd", 1800, 1, 1);
        }
        d.x.line(-400);
        for (int field = 0; field < 4; field++) {
            d.x.points(field, 0, 100);
        }
        due.is("ten by ten", d.x.laid(0, 1, 0), 10);
        due.is("ten by ten: the greatest sum there is", d.x.laid(0, 1, 1), 8010);
        for (int k = 0; k < 10; k++) {
            due.is("ten by ten: mate(" + k + ", 1)", d.x.mate(k, 1), 10 + k);
            due.is("ten by ten: mate(" + (10 + k) + ", 0)", d.x.mate(10 + k, 0), k);
        }
        due.is("ten by none", d.x.laid(0, 2, 0), 0);
        due.is("none by ten", d.x.laid(2, 1, 1), 0);
        due.is("mate in an empty register", d.x.mate(3, 2), NONE);
    }

    /** Rows without links must leave no trace in the laying, not even the last one. */
    private static void layTenByTwo() {
        Desk d = new Desk();
        d.x.line(20);
        for (int k = 0; k < 10; k++) {
            d.row(0, ("" + (char) ('a' + (k == 1 ? 0 : k))).repeat(6));
        }
        d.row(1, "aaaaaa");
        d.row(1, "cccccc");
        due.is("ten by two", d.x.laid(0, 1, 0), 2);
        due.is("ten by two: the sum", d.x.laid(0, 1, 1), 2);
        for (int k = 0; k < 10; k++) {
            due.is("ten by two: mate(" + k + ", 1)", d.x.mate(k, 1), k == 0 ? 10 : k == 2 ? 11 : NONE);
        }
        d.row(1, "jjjjjj");
        due.is("the last row's mate", d.x.mate(9, 1), 12);
        due.is("the last row's row", d.x.mate(12, 0), 9);
        d.row(1, "zzzzzz");
        due.is("a row without links beside it", d.x.mate(9, 1), 12);
        due.is("a row whose like was laid before", d.x.mate(1, 1), NONE);
        due.is("the sum", d.x.laid(0, 1, 1), 3);
    }

    private static void laidRefused() {
        Desk d = new Desk();
        int[][] bad = {{-1, 0, 0}, {3, 0, 0}, {0, -1, 0}, {0, 3, 0}, {1, 1, 0}, {0, 1, -1}, {0, 1, 2}};
        for (int[] c : bad) {
            due.is("laid " + java.util.Arrays.toString(c), d.x.laid(c[0], c[1], c[2]), BAD);
        }
        due.is("mate without rows", d.x.mate(0, 1), BAD);
        for (int k = 0; k < 11; k++) {
            d.row(0, "a");
        }
        d.row(1, "a");
        due.is("laid with 11", d.x.laid(0, 1, 0), NOT);
        due.is("laid with 11, sum", d.x.laid(0, 1, 1), NOT);
        due.is("laid with 11 in the second", d.x.laid(1, 0, 0), NOT);
        due.is("laid of others", d.x.laid(1, 2, 0), 0);
        due.is("BAD is ahead of NOT", d.x.laid(0, 1, 2), BAD);
        due.is("mate with 11", d.x.mate(0, 1), NOT);
        due.is("mate with 11 in the second", d.x.mate(11, 0), NOT);
        due.is("mate(11, 2)", d.x.mate(11, 2), NONE);
        due.is("mate(0, 0)", d.x.mate(0, 0), BAD);
        due.is("mate(0, -1)", d.x.mate(0, -1), BAD);
        due.is("mate(0, 3)", d.x.mate(0, 3), BAD);
        due.is("mate(12, 1)", d.x.mate(12, 1), BAD);
        due.is("mate(-1, 1)", d.x.mate(-1, 1), BAD);
        d.x.pass(1);
        d.x.takeBack(10);
        due.is("mate of a row not known, ahead of NOT", d.x.mate(10, 1), BAD);
        due.is("laid with 10 known ones", d.x.laid(0, 1, 0), 0);
        d.x.asOf(0);
        due.is("laid as of the day before", d.x.laid(0, 1, 0), NOT);
        due.is("mate as of the day before", d.x.mate(10, 1), NOT);
    }

    // Promises 24 and 25
    private static void bundle() {
        Desk d = new Desk();
        for (int what = 0; what < 3; what++) {
            due.is("bundles(" + what + ") without rows", d.x.bundles(what), 0);
        }
        due.is("bundle without rows", d.x.bundle(0), BAD);
        d.namesAlone();
        d.x.line(60);
        String[] names = {"kkkk", "aaad", "zzzz", "aaac", "aabc", "kkkl", "abbb", "aabb"};
        for (String name : names) {
            d.row(0, name);
        }
        // a chain: 1 - 3 - 4 - 7 - 6
        int[] want = {0, 1, 2, 1, 1, 0, 1, 1};
        for (int row = 0; row < 8; row++) {
            due.is("bundle(" + row + ")", d.x.bundle(row), want[row]);
        }
        due.is("bundles(0)", d.x.bundles(0), 3);
        due.is("bundles(1)", d.x.bundles(1), 2);
        due.is("bundles(2)", d.x.bundles(2), 5);
        d.x.pass(1);
        d.x.takeBack(4);
        int[] less = {0, 1, 2, 1, NOT, 0, 6, 6};
        for (int row = 0; row < 8; row++) {
            due.is("bundle(" + row + ") less a row", d.x.bundle(row), less[row]);
            due.is("torn(" + row + ") less a row", d.x.torn(row), row == 4 ? NOT : row == 2 ? 0 : 1);
        }
        due.is("bundles(0) less a row", d.x.bundles(0), 4);
        due.is("bundles(1) less a row", d.x.bundles(1), 3);
        due.is("bundles(2) less a row", d.x.bundles(2), 2);
        d.x.asOf(0);
        due.is("bundle as of the day before", d.x.bundle(6), 1);
        due.is("bundle(8)", d.x.bundle(8), BAD);
        due.is("bundle(-1)", d.x.bundle(-1), BAD);
        due.is("bundles(-1)", d.x.bundles(-1), BAD);
        due.is("bundles(3)", d.x.bundles(3), BAD);
        for (int row = 0; row < 8; row++) {
            d.x.takeBack(row);
        }
        d.x.asOf(NONE);
        for (int what = 0; what < 3; what++) {
            due.is("bundles(" + what + ") with none known", d.x.bundles(what), 0);
        }
    }

    // Promise 26
    private static void torn() {
        Desk d = new Desk();
        d.namesAlone();
        d.x.line(60);
        d.row(0, "aaaa", NONE, NONE, 0);
        d.row(1, "aaaa", NONE, NONE, NONE);
        due.is("a sort missing", d.x.torn(0), 0);
        d.row(2, "aaaa", NONE, NONE, 1);
        due.is("unlike sorts", d.x.torn(1), 1);
        due.is("unlike sorts, bundles(1)", d.x.bundles(1), 1);
        d.row(0, "kkkk", NONE, NONE, 0);
        d.row(1, "kkkk", NONE, NONE, 0);
        due.is("like sorts", d.x.torn(3), 0);
        d.row(2, "kkkk", NONE, NONE, 0);
        due.is("one of each register", d.x.torn(5), 0);
        d.row(2, "kkkk", NONE, NONE, 0);
        due.is("two of one register", d.x.torn(3), 1);
        d.row(1, "zzzz", NONE, NONE, 1);
        due.is("a row alone", d.x.torn(7), 0);
        d.row(2, "zzzz", NONE, NONE, 1);
        due.is("two of sort 1", d.x.torn(7), 0);
        due.is("bundles(0)", d.x.bundles(0), 3);
        due.is("bundles(1)", d.x.bundles(1), 2);
        d.x.takeBack(6);
        due.is("less one", d.x.torn(3), 0);
        due.is("torn of a row taken back", d.x.torn(6), NOT);
        due.is("torn(9)", d.x.torn(9), BAD);
        due.is("torn(-1)", d.x.torn(-1), BAD);
        Desk f = new Desk();
        f.x.line(20);
        f.row(0, "aaaa", NONE, NONE, 1);
        f.row(1, "aaaa", NONE, NONE, NONE);
        due.is("sort 1 and a sort missing", f.x.torn(0), 0);
        f.row(2, "aaaa", NONE, NONE, 1);
        due.is("sort 1 twice and a sort missing", f.x.torn(0), 0);
        // the ends of a chain are in it, too
        Desk e = new Desk();
        e.namesAlone();
        e.x.line(60);
        e.row(0, "aaaa", NONE, NONE, 0);
        e.row(1, "aaab", NONE, NONE, NONE);
        e.row(2, "aabb", NONE, NONE, 1);
        due.is("unlike sorts that have no link", e.x.torn(0), 1);
    }

    // Promise 27
    private static void cut() {
        Desk d = new Desk();
        d.namesAlone();
        d.x.line(60);
        String[] names = {"aaaa", "aaab", "aabb", "abbb", "aaac", "aaad", "zzzz"};
        for (String name : names) {
            d.row(0, name);
        }
        // 0 1 4 5 all linked; 1-2, 2-3 a chain; 6 alone
        int[][] want = {
            {0, 1, 3}, {0, 4, 3}, {4, 5, 3}, {1, 2, 1}, {0, 2, 1}, {0, 3, 1}, {2, 3, 1}, {5, 3, 1},
        };
        for (int[] w : want) {
            due.is("cut(" + w[0] + ", " + w[1] + ")", d.x.cut(w[0], w[1]), w[2]);
            due.is("cut(" + w[1] + ", " + w[0] + ")", d.x.cut(w[1], w[0]), w[2]);
        }
        due.is("links are still there", d.x.links(), 8);
        due.is("cut of two bundles", d.x.cut(0, 6), NOT);
        d.x.line(20);
        due.is("cut by more links", d.x.cut(0, 2), 4);
        due.is("cut(3, 1)", d.x.cut(3, 1), 2);
        Desk e = new Desk();
        e.namesAlone();
        e.x.line(60);
        String[] six = {"aaaa", "aaab", "baaa", "caaa", "baab", "caab"};
        for (String name : six) {
            e.row(0, name);
        }
        due.is("cut(0, 4)", e.x.cut(0, 4), 3);
        due.is("cut(3, 4)", e.x.cut(3, 4), 3);
        due.is("cut(0, 5)", e.x.cut(0, 5), 3);
    }

    /** One row at each of so many places; the rows of two places are linked if the pair stands in the text. */
    private static Desk graph(int places, String links) {
        Desk d = new Desk();
        for (int field = 0; field < 4; field++) {
            for (int level = 0; level < 4; level++) {
                d.x.points(field, level, field == 2 && level == 1 ? 100 : 0);
            }
        }
        d.x.line(100);
        for (int place = 0; place < places; place++) {
            d.row(place % 3, "a", NONE, place, NONE);
        }
        for (String link : links.split(" ")) {
            if (!link.isEmpty()) d.x.way(link.charAt(0) - '0', link.charAt(1) - '0', 5);
        }
        return d;
    }

    /** The shortest way 0 1 2 3 uses a link of both others: it must be gone back. */
    private static void cutByWays() {
        Desk d = graph(8, "01 12 23 04 45 52 16 67 73");
        due.is("links()", d.x.links(), 9);
        due.is("one bundle", d.x.bundles(2), 8);
        due.is("two ways that cross", d.x.cut(0, 3), 2);
        due.is("two ways that cross, from behind", d.x.cut(3, 0), 2);
        due.is("cut(1, 2)", d.x.cut(1, 2), 3);
        due.is("cut(4, 7)", d.x.cut(4, 7), 2);
        Desk ring = graph(8, "01 12 23 34 45 56 67 70");
        due.is("a ring", ring.x.cut(2, 6), 2);
        Desk bridge = graph(8, "01 12 20 23 34 45 53 56 67 75");
        due.is("a bridge", bridge.x.cut(0, 7), 1);
        due.is("before the bridge", bridge.x.cut(0, 1), 2);
    }

    /** Every side on which the one row may stand without the other is tried. */
    private static int fewestLinks(boolean[][] linked, int a, int b) {
        int best = Integer.MAX_VALUE;
        for (int side = 0; side < 1 << linked.length; side++) {
            if ((side >> a & 1) == 0 || (side >> b & 1) == 1) continue;
            int n = 0;
            for (int i = 0; i < linked.length; i++) {
                for (int j = 0; j < linked.length; j++) {
                    if (linked[i][j] && (side >> i & 1) == 1 && (side >> j & 1) == 0) n++;
                }
            }
            best = Math.min(best, n);
        }
        return best;
    }

    private static void cutOfRandomGraphs() {
        int state = 1;
        for (int run = 0; run < 200; run++) {
            StringBuilder links = new StringBuilder();
            boolean[][] linked = new boolean[8][8];
            for (int a = 0; a < 8; a++) {
                for (int b = a + 1; b < 8; b++) {
                    state = state * 1103515245 + 12345;
                    if ((state >>> 16) % 10 < 3 + run % 4) {
                        links.append((char) ('0' + a)).append((char) ('0' + b)).append(' ');
                        linked[a][b] = true;
                        linked[b][a] = true;
                    }
                }
            }
            Desk d = graph(8, links.toString());
            for (int b = 1; b < 8; b++) {
                int fewest = fewestLinks(linked, 0, b);
                due.is("cut(0, " + b + ") of " + links, d.x.cut(0, b), fewest == 0 ? NOT : fewest);
            }
        }
    }

    private static void cutRefused() {
        Desk d = new Desk();
        due.is("cut without rows", d.x.cut(0, 1), BAD);
        d.x.line(20);
        d.row(0, "a");
        d.row(1, "a");
        d.x.pass(1);
        d.row(2, "a");
        due.is("cut(0, 0)", d.x.cut(0, 0), BAD);
        due.is("cut(0, 3)", d.x.cut(0, 3), BAD);
        due.is("cut(3, 0)", d.x.cut(3, 0), BAD);
        due.is("cut(-1, 0)", d.x.cut(-1, 0), BAD);
        due.is("cut(0, -1)", d.x.cut(0, -1), BAD);
        due.is("cut(0, 1)", d.x.cut(0, 1), 2);
        d.x.takeBack(1);
        due.is("cut of a row taken back", d.x.cut(0, 1), NOT);
        due.is("cut from a row taken back", d.x.cut(1, 0), NOT);
        due.is("cut of two rows taken back", d.x.takeBack(0) * 0 + d.x.cut(0, 1), NOT);
        d.x.asOf(0);
        due.is("cut as of day 0", d.x.cut(0, 1), 1);
        due.is("cut of a row told later", d.x.cut(0, 2), NOT);
    }

    private static void cutOfTwelve() {
        Desk d = new Desk();
        d.x.line(20);
        for (int k = 0; k < 12; k++) {
            d.row(0, "abcd");
        }
        d.row(1, "zzzzz");
        d.row(1, "zzzzz");
        due.is("cut of twelve", d.x.cut(0, 11), 11);
        due.is("cut(12, 13)", d.x.cut(12, 13), 1);
        d.x.pass(1);
        d.row(2, "abcd");
        due.is("cut of thirteen", d.x.cut(0, 11), FULL);
        due.is("cut of a small bundle beside it", d.x.cut(12, 13), 1);
        due.is("NOT is ahead of FULL", d.x.cut(0, 12), NOT);
        due.is("NOT is ahead of FULL, the other way", d.x.cut(12, 0), NOT);
        due.is("BAD is ahead of FULL", d.x.cut(0, 0), BAD);
        d.x.takeBack(5);
        due.is("of twelve again", d.x.cut(0, 14), 11);
        due.is("of one taken back", d.x.cut(0, 5), NOT);
        d.x.asOf(0);
        due.is("of twelve as of day 0", d.x.cut(5, 0), 11);
        Desk e = new Desk();
        e.x.line(20);
        for (int k = 0; k < 36; k++) {
            e.row(k % 3, ("" + (char) ('a' + k / 12)).repeat(5));
        }
        due.is("cut of the last of 36 rows", e.x.cut(24, 35), 11);
        due.is("cut of the first of 36 rows", e.x.cut(11, 0), 11);
    }
}
