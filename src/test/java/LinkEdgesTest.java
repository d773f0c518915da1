/**
 * The edges that the document names of the line, links, layings, bundles and cuts: promises 20 to 27
 * and their terms. Each method is one sentence, or the part of one that names an edge.
 */
public final class LinkEdgesTest {
    private static final int NONE = Desk.NONE, BAD = Desk.BAD, NOT = Desk.NOT, FULL = Desk.FULL;
    private static final int LEAST = Integer.MIN_VALUE, MOST = Integer.MAX_VALUE;
    private static final Due due = new Due();

    public static void main(String[] args) {
        theLineIs400AtMost();
        linksOfNoneAndOne();
        aScoreOnTheLine();
        allLinksThereCanBe();
        linksOfKnownRows();
        twoUnlikeRegisters();
        laidZeroAndOne();
        tenKnownRowsEach();
        tenKnownOnesOfMore();
        oneEach();
        noneToLay();
        greatestSum();
        ofLikeOnesTheLeastRows();
        noneBehindAll();
        theLastOfTenByTen();
        mateRefused();
        mateOfRegisterB();
        aRowAloneIsABundle();
        oneBundleOfAll();
        bundleRefused();
        bundlesZeroTo2();
        twoOfOneRegister();
        unlikeSortsToldInBoth();
        tornRefused();
        cutRefused();
        aBundleOfUpTo12();
        fewestAndMostLinksToCut();
        cutRefusedInOrder();
        due.end();
    }

    // Terms 4: "the LINE (told, -400 to 400; 30 at first)"; promise 20: "BAD: -1000."
    private static void theLineIs400AtMost() {
        OneSelf x = new OneSelf();
        int[] none = {LEAST, -1000, -401, 401, MOST};
        for (int l : none) {
            due.is("line(" + l + ")", x.line(l), -1000);
        }
        due.is("30 at first", x.line(-400), 30);
        due.is("-400 it was", x.line(400), -400);
        due.is("400 it was", x.line(0), 400);
    }

    // Terms 4: "LINKS are pairs"
    private static void linksOfNoneAndOne() {
        Desk d = new Desk();
        d.x.line(-400);
        due.is("of no ROWS", d.x.links(), 0);
        d.row(0, "a");
        due.is("of one ROW", d.x.links(), 0);
        d.row(0, "z", 1500, 0, 0);
        due.is("of two", d.x.links(), 1);
    }

    // Terms 4: "whose SCORE is at least the LINE"
    private static void aScoreOnTheLine() {
        Desk d = new Desk();
        d.row(0, "aaaa", 1800, 0, 0);
        d.row(0, "aaaa", 1800, 0, 0);
        d.x.line(79);
        due.is("a SCORE above the LINE", d.x.links(), 1);
        d.x.line(80);
        due.is("a SCORE on the LINE", d.x.links(), 1);
        d.x.line(81);
        due.is("a SCORE below the LINE", d.x.links(), 0);
        for (int field = 0; field <= 3; field++) {
            d.x.points(field, 0, 100);
        }
        d.x.line(400);
        due.is("the greatest SCORE on the greatest LINE", d.x.links(), 1);
        for (int field = 0; field <= 3; field++) {
            d.x.points(field, 0, -100);
        }
        d.x.line(-399);
        due.is("the least SCORE below the LINE", d.x.links(), 0);
        d.x.line(-400);
        due.is("the least SCORE on the least LINE", d.x.links(), 1);
    }

    private static void allLinksThereCanBe() {
        Desk d = new Desk();
        d.x.line(-400);
        for (int row = 0; row <= 35; row++) {
            d.row(row % 3, "a", 1500 + row, row % 8, row % 2);
        }
        due.is("36 ROWS at the least LINE", d.x.links(), 36 * 35 / 2);
        d.x.line(400);
        due.is("36 ROWS at the greatest LINE", d.x.links(), 0);
    }

    // Terms 4: "of KNOWN ROWS"
    private static void linksOfKnownRows() {
        Desk d = new Desk();
        d.x.line(20);
        d.row(0, "a");
        d.x.pass(1);
        d.row(1, "a");
        d.x.pass(1);
        d.x.takeBack(0);
        due.is("one taken back on the DAY", d.x.links(), 0);
        d.x.asOf(1);
        due.is("the DAY before, on which the other was told", d.x.links(), 1);
        d.x.asOf(0);
        due.is("the DAY before that", d.x.links(), 0);
    }

    /** So many ROWS of the same NAME in each REGISTER, and the LINE on their SCORE. */
    private static Desk registers(int zero, int one, int two) {
        Desk d = new Desk();
        d.x.line(20);
        int[] sizes = {zero, one, two};
        for (int register = 0; register <= 2; register++) {
            for (int k = 0; k < sizes[register]; k++) {
                d.row(register, "abcd");
            }
        }
        return d;
    }

    // Terms 4: "LAID are two unlike REGISTERS a, b"; promise 22: "BAD"
    private static void twoUnlikeRegisters() {
        Desk d = registers(1, 1, 1);
        int[] none = {LEAST, -1, 3, MOST};
        for (int register : none) {
            due.is("laid(" + register + ", 0, 0)", d.x.laid(register, 0, 0), BAD);
            due.is("laid(0, " + register + ", 0)", d.x.laid(0, register, 0), BAD);
            due.is("laid(" + register + ", " + register + ", 0)", d.x.laid(register, register, 0), BAD);
        }
        for (int a = 0; a <= 2; a++) {
            for (int b = 0; b <= 2; b++) {
                due.is("laid(" + a + ", " + b + ", 0)", d.x.laid(a, b, 0), a == b ? BAD : 1);
            }
        }
    }

    // Promise 22: "0 how many, 1 the sum"
    private static void laidZeroAndOne() {
        Desk d = registers(2, 3, 0);
        int[] none = {LEAST, -1, 2, MOST};
        for (int what : none) {
            due.is("laid(0, 1, " + what + ")", d.x.laid(0, 1, what), BAD);
        }
        d.x.line(10);
        due.is("how many", d.x.laid(0, 1, 0), 2);
        due.is("the sum", d.x.laid(0, 1, 1), 22);
    }

    // Terms 4: "with 10 KNOWN ROWS each at most"; promise 22: "NOT: one has more than 10 KNOWN ROWS."
    private static void tenKnownRowsEach() {
        Desk d = registers(10, 10, 0);
        due.is("ten and ten", d.x.laid(0, 1, 0), 10);
        due.is("ten and ten, the sum", d.x.laid(0, 1, 1), 10);
        due.is("ten and none", d.x.laid(0, 2, 0), 0);
        due.is("none and ten", d.x.laid(2, 1, 0), 0);
        d.row(0, "zzzz");
        for (int what = 0; what <= 1; what++) {
            due.is("eleven and ten", d.x.laid(0, 1, what), NOT);
            due.is("ten and eleven", d.x.laid(1, 0, what), NOT);
            due.is("eleven and none", d.x.laid(0, 2, what), NOT);
            due.is("none and eleven", d.x.laid(2, 0, what), NOT);
            due.is("of the others", d.x.laid(1, 2, what), 0);
        }
        due.is("BAD ahead of NOT", d.x.laid(0, 1, 2), BAD);
        due.is("BAD ahead of NOT, of one REGISTER", d.x.laid(0, 0, 0), BAD);
        due.is("NOT is no FINDING", d.x.count(8), 0);
        due.is("36 of one REGISTER", registers(36, 0, 0).x.laid(1, 0, 1), NOT);
    }

    private static void tenKnownOnesOfMore() {
        Desk d = registers(10, 0, 10);
        d.x.pass(1);
        due.is("an eleventh ROW", d.row(0, "abcd"), 20);
        due.is("NOT with it", d.x.laid(0, 2, 0), NOT);
        d.x.asOf(0);
        due.is("as of the DAY before it was told", d.x.laid(0, 2, 0), 10);
        d.x.asOf(NONE);
        d.x.takeBack(0);
        due.is("with one taken back", d.x.laid(0, 2, 0), 10);
        due.is("the eleventh's mate", d.x.mate(20, 2), 19);
        due.is("the first's that is left", d.x.mate(1, 2), 10);
        due.is("from the other side", d.x.mate(10, 0), 1);
    }

    // Terms 4: "the greatest sum of SCORES less LINE and 1 each"
    private static void oneEach() {
        Desk d = registers(1, 1, 0);
        due.is("a SCORE on the LINE", d.x.laid(0, 1, 1), 1);
        d.x.line(19);
        due.is("one above the LINE", d.x.laid(0, 1, 1), 2);
        d.x.line(21);
        due.is("one below the LINE", d.x.laid(0, 1, 1), 0);
        due.is("none is LAID", d.x.laid(0, 1, 0), 0);
        Desk e = new Desk();
        e.row(0, "a", 1800, 0, 0);
        e.row(1, "a", 1800, 0, 0);
        for (int field = 0; field <= 3; field++) {
            e.x.points(field, 0, 100);
        }
        e.x.line(-400);
        due.is("the greatest there is", e.x.laid(0, 1, 1), 801);
        for (int field = 0; field <= 3; field++) {
            e.x.points(field, 0, -100);
        }
        due.is("the least there is", e.x.laid(0, 1, 1), 1);
    }

    private static void noneToLay() {
        OneSelf x = new OneSelf();
        for (int what = 0; what <= 1; what++) {
            due.is("no ROWS", x.laid(0, 1, what), 0);
            due.is("none in a", registers(0, 3, 0).x.laid(0, 1, what), 0);
            due.is("none in b", registers(0, 3, 0).x.laid(1, 0, what), 0);
        }
        Desk d = registers(2, 2, 0);
        d.x.line(400);
        due.is("no LINKS", d.x.laid(0, 1, 0), 0);
        due.is("no LINKS, the sum", d.x.laid(0, 1, 1), 0);
        due.is("no LINKS, a mate", d.x.mate(0, 1), NONE);
    }

    /** ROWS at PLACES: those of two PLACES score as their WAY has it, 100, 50, 20 or 0; like PLACES 100. */
    private static Desk places(int[] zero, int[] one) {
        Desk d = new Desk();
        int[] points = {100, 100, 50, 0};
        for (int level = 0; level <= 3; level++) {
            d.x.points(0, level, 0);
            d.x.points(2, level, points[level]);
        }
        d.x.line(50);
        for (int place : zero) {
            d.row(0, "a", NONE, place, NONE);
        }
        for (int place : one) {
            d.row(1, "a", NONE, place, NONE);
        }
        return d;
    }

    // Terms 4: "the greatest sum", not the greatest SCORE first, nor the most LAID
    private static void greatestSum() {
        Desk d = places(new int[] {0, 1}, new int[] {2, 3});
        // 0-2 gains 51, 0-3 and 1-2 gain 1 each, 1-3 is no LINK
        d.x.way(0, 2, 5);
        d.x.way(0, 3, 20);
        d.x.way(1, 2, 20);
        due.is("one of 51 before two of 1", d.x.laid(0, 1, 1), 51);
        due.is("it is one", d.x.laid(0, 1, 0), 1);
        d.x.points(2, 2, 75);
        // now 26 each: two of 26 are 52
        due.is("two of 26 before one of 51", d.x.laid(0, 1, 1), 52);
        due.is("the first's mate", d.x.mate(0, 1), 3);
        due.is("the second's mate", d.x.mate(1, 1), 2);
        d.x.points(2, 2, 74);
        due.is("two of 25 are 50", d.x.laid(0, 1, 1), 51);
        due.is("the first's mate then", d.x.mate(0, 1), 2);
        due.is("the second's mate then", d.x.mate(1, 1), NONE);
    }

    // Terms 4: "of like ones the least ROWS (the first ROW's of a compared first"
    private static void ofLikeOnesTheLeastRows() {
        Desk d = registers(2, 2, 0);
        due.is("the first has the least", d.x.mate(0, 1), 2);
        due.is("the second has the next", d.x.mate(1, 1), 3);
        due.is("the other way", d.x.mate(2, 0), 0);
        due.is("the other way, next", d.x.mate(3, 0), 1);
        // ROWS bear the numbers of their PLACES; 0-3, 0-4, 1-2 and 1-3 gain 1 each
        Desk e = places(new int[] {0, 1}, new int[] {2, 3, 4});
        int[][] ways = {{0, 3}, {0, 4}, {1, 2}, {1, 3}};
        for (int[] w : ways) {
            e.x.way(w[0], w[1], 20);
        }
        due.is("the first's least ahead of the second's", e.x.mate(0, 1), 3);
        due.is("the second's least of the rest", e.x.mate(1, 1), 2);
        e.x.way(1, 2, 50);
        due.is("two LAID are more than the first's least", e.x.mate(0, 1), 4);
        due.is("so the second has it", e.x.mate(1, 1), 3);
        // 0-3 and 1-4 gain 52 together, as 0-4 and 1-2 do: the ROWS of the one asked are compared first
        Desk f = places(new int[] {0, 1}, new int[] {2, 3, 4});
        int[][] both = {{0, 3, 20}, {1, 4, 5}, {0, 4, 5}, {1, 2, 20}};
        for (int[] w : both) {
            f.x.way(w[0], w[1], w[2]);
        }
        due.is("like sums", f.x.laid(0, 1, 1), 52);
        due.is("of 0 to 1: 0 has 3", f.x.mate(0, 1), 3);
        due.is("of 0 to 1: 1 has 4", f.x.mate(1, 1), 4);
        due.is("of 1 to 0: 2 has 1", f.x.mate(2, 0), 1);
        due.is("of 1 to 0: 3 has none", f.x.mate(3, 0), NONE);
        due.is("of 1 to 0: 4 has 0", f.x.mate(4, 0), 0);
    }

    // Terms 4: "none behind all"
    private static void noneBehindAll() {
        Desk d = registers(3, 1, 0);
        due.is("the first has the only one", d.x.mate(0, 1), 3);
        due.is("the second none", d.x.mate(1, 1), NONE);
        due.is("the third none", d.x.mate(2, 1), NONE);
        due.is("the only one has the first", d.x.mate(3, 0), 0);
        // both may have the only ROW of b, at its last PLACE
        Desk e = places(new int[] {0, 1}, new int[] {7});
        e.x.way(0, 7, 20);
        e.x.way(1, 7, 20);
        due.is("a mate, be it the last, ahead of none", e.x.mate(0, 1), 2);
        due.is("none for the other", e.x.mate(1, 1), NONE);
        e.x.way(1, 7, 5);
        due.is("but the sum comes first", e.x.mate(0, 1), NONE);
        due.is("the other has it", e.x.mate(1, 1), 2);
    }

    private static void theLastOfTenByTen() {
        Desk d = new Desk();
        d.namesAlone();
        d.x.line(100);
        for (int k = 0; k < 20; k++) {
            d.row(k / 10, k % 10 == 9 ? "zzzz" : "" + (char) ('a' + k) + (char) ('a' + k) + (char) ('a' + k));
        }
        due.is("the last alone", d.x.laid(0, 1, 0), 1);
        due.is("its mate", d.x.mate(9, 1), 19);
        due.is("its mate's mate", d.x.mate(19, 0), 9);
        due.is("the first has none", d.x.mate(0, 1), NONE);
        due.is("the ninth has none", d.x.mate(8, 1), NONE);
    }

    // Promise 23: "BAD: also a ROW that is not KNOWN, or of REGISTER b; NOT: as laid()."
    private static void mateRefused() {
        due.is("mate(0, 1) without ROWS", new OneSelf().mate(0, 1), BAD);
        Desk d = registers(11, 1, 1);
        int[] none = {LEAST, -1, 13, 36, MOST};
        for (int row : none) {
            due.is("mate(" + row + ", 1)", d.x.mate(row, 1), BAD);
        }
        int[] nothing = {LEAST, -1, 3, MOST};
        for (int b : nothing) {
            due.is("mate(11, " + b + ")", d.x.mate(11, b), BAD);
        }
        due.is("eleven in its REGISTER", d.x.mate(0, 1), NOT);
        due.is("eleven in b", d.x.mate(11, 0), NOT);
        due.is("eleven in neither", d.x.mate(11, 2), 12);
        due.is("of REGISTER b, ahead of NOT", d.x.mate(0, 0), BAD);
        d.x.pass(1);
        d.x.takeBack(11);
        due.is("not KNOWN", d.x.mate(11, 2), BAD);
        due.is("not KNOWN, ahead of NOT", d.x.mate(11, 0), BAD);
        due.is("its mate has none now", d.x.mate(12, 1), NONE);
        d.x.asOf(0);
        due.is("KNOWN as of the DAY before", d.x.mate(11, 2), 12);
        d.x.asOf(NONE);
        d.row(1, "abcd");
        d.x.asOf(0);
        due.is("not KNOWN yet", d.x.mate(13, 2), BAD);
    }

    private static void mateOfRegisterB() {
        Desk d = registers(1, 1, 1);
        for (int row = 0; row <= 2; row++) {
            for (int b = 0; b <= 2; b++) {
                due.is("mate(" + row + ", " + b + ")", d.x.mate(row, b), row == b ? BAD : b);
            }
        }
    }

    // Terms 4: "A BUNDLE is all KNOWN ROWS that hang together by LINKS": of one, too
    private static void aRowAloneIsABundle() {
        Desk d = new Desk();
        d.row(2, "a");
        due.is("bundle(0)", d.x.bundle(0), 0);
        due.is("bundles(0)", d.x.bundles(0), 1);
        due.is("bundles(1)", d.x.bundles(1), 0);
        due.is("bundles(2)", d.x.bundles(2), 1);
        due.is("torn(0)", d.x.torn(0), 0);
        for (int row = 1; row <= 35; row++) {
            d.row(0, "a");
        }
        due.is("36 without LINKS", d.x.bundles(0), 36);
        due.is("the last's number", d.x.bundle(35), 35);
        due.is("none of them TORN", d.x.bundles(1), 0);
        due.is("of one ROW each", d.x.bundles(2), 1);
    }

    // Terms 4: "its number is its least ROW"
    private static void oneBundleOfAll() {
        Desk d = registers(12, 12, 12);
        due.is("the first's number", d.x.bundle(0), 0);
        due.is("the last's number", d.x.bundle(35), 0);
        due.is("bundles(0)", d.x.bundles(0), 1);
        due.is("bundles(1)", d.x.bundles(1), 1);
        due.is("bundles(2)", d.x.bundles(2), 36);
        d.x.takeBack(0);
        due.is("less the least", d.x.bundle(35), 1);
        due.is("bundles(2), less one", d.x.bundles(2), 35);
        due.is("the one taken back", d.x.bundle(0), NOT);
    }

    // Promise 24: "BAD; NOT: it is not KNOWN."
    private static void bundleRefused() {
        due.is("bundle(0) without ROWS", new OneSelf().bundle(0), BAD);
        Desk d = new Desk();
        d.row(0, "a");
        int[] none = {LEAST, -1, 1, 36, MOST};
        for (int row : none) {
            due.is("bundle(" + row + ")", d.x.bundle(row), BAD);
        }
        d.x.pass(2);
        d.x.takeBack(0);
        due.is("taken back", d.x.bundle(0), NOT);
        due.is("taken back, and no such ROW", d.x.bundle(1), BAD);
        d.x.asOf(1);
        due.is("as of the DAY before", d.x.bundle(0), 0);
        d.row(0, "a");
        due.is("not told yet", d.x.bundle(1), NOT);
    }

    // Promise 25: "(what = 0), TORN ones (1), ROWS in the greatest (2). BAD."
    private static void bundlesZeroTo2() {
        OneSelf x = new OneSelf();
        int[] none = {LEAST, -1, 3, MOST};
        for (int what : none) {
            due.is("bundles(" + what + ")", x.bundles(what), BAD);
        }
        for (int what = 0; what <= 2; what++) {
            due.is("bundles(" + what + ") without ROWS", x.bundles(what), 0);
        }
        Desk d = registers(1, 1, 0);
        d.x.takeBack(0);
        d.x.takeBack(1);
        for (int what = 0; what <= 2; what++) {
            due.is("bundles(" + what + ") without KNOWN ROWS", d.x.bundles(what), 0);
        }
    }

    // Terms 4: "It is TORN, if two ROWS in it are of one REGISTER"
    private static void twoOfOneRegister() {
        due.is("one of each", registers(1, 1, 1).x.torn(2), 0);
        due.is("two of 0", registers(2, 0, 1).x.torn(2), 1);
        due.is("two of 1", registers(1, 2, 0).x.torn(0), 1);
        due.is("two of 2", registers(0, 1, 2).x.torn(0), 1);
        Desk d = registers(2, 0, 0);
        d.x.line(21);
        due.is("two of one, in two BUNDLES", d.x.torn(0) + d.x.torn(1) + d.x.bundles(1), 0);
        Desk e = registers(2, 1, 0);
        e.x.pass(1);
        e.x.takeBack(0);
        due.is("two of one, one of them not KNOWN", e.x.torn(1), 0);
        e.x.asOf(0);
        due.is("both KNOWN as of the DAY before", e.x.torn(1), 1);
    }

    // Terms 4: "or of unlike SORTS (told in both)"
    private static void unlikeSortsToldInBoth() {
        int[][] want = {{0, 0, 0}, {1, 1, 0}, {0, 1, 1}, {1, 0, 1}, {0, NONE, 0}, {NONE, 1, 0}, {NONE, NONE, 0}};
        for (int[] w : want) {
            Desk d = new Desk();
            d.x.line(-400);
            d.row(0, "a", NONE, NONE, w[0]);
            d.row(1, "a", NONE, NONE, w[1]);
            due.is("SORTS " + w[0] + ", " + w[1], d.x.torn(0), w[2]);
            due.is("SORTS " + w[0] + ", " + w[1] + ", in all", d.x.bundles(1), w[2]);
            d.row(2, "a", NONE, NONE, NONE);
            due.is("and one missing between them", d.x.torn(2), w[2]);
        }
    }

    // Promise 26: "BAD; NOT."
    private static void tornRefused() {
        due.is("torn(0) without ROWS", new OneSelf().torn(0), BAD);
        Desk d = registers(2, 0, 0);
        int[] none = {LEAST, -1, 2, 36, MOST};
        for (int row : none) {
            due.is("torn(" + row + ")", d.x.torn(row), BAD);
        }
        d.x.takeBack(1);
        due.is("torn of one taken back", d.x.torn(1), NOT);
        due.is("torn of the other", d.x.torn(0), 0);
    }

    // Promise 27: "BAD: also a ROW with itself; NOT: not KNOWN, or not of one BUNDLE"
    private static void cutRefused() {
        due.is("cut(0, 1) without ROWS", new OneSelf().cut(0, 1), BAD);
        Desk d = registers(2, 0, 0);
        d.row(1, "zzzz");
        int[][] bad = {{0, 0}, {0, 3}, {3, 0}, {-1, 0}, {0, -1}, {0, MOST}, {LEAST, 0}, {3, 3}, {36, 36}};
        for (int[] p : bad) {
            due.is("cut(" + p[0] + ", " + p[1] + ")", d.x.cut(p[0], p[1]), BAD);
        }
        due.is("not of one BUNDLE", d.x.cut(0, 2), NOT);
        due.is("not of one BUNDLE, the other way", d.x.cut(2, 1), NOT);
        due.is("of one", d.x.cut(0, 1), 1);
        d.x.takeBack(1);
        due.is("the second not KNOWN", d.x.cut(0, 1), NOT);
        due.is("the first not KNOWN", d.x.cut(1, 0), NOT);
        due.is("a ROW that is not KNOWN with itself", d.x.cut(1, 1), BAD);
    }

    // Terms 4: "of one BUNDLE of up to 12"; promise 27: "FULL: it has more than 12 ROWS."
    private static void aBundleOfUpTo12() {
        Desk d = registers(12, 0, 0);
        due.is("of 12", d.x.cut(0, 11), 11);
        due.is("of 12, the other way", d.x.cut(11, 0), 11);
        d.row(1, "abcd");
        due.is("of 13", d.x.cut(0, 11), FULL);
        due.is("FULL is no FINDING", d.x.count(8), 0);
        d.x.takeBack(12);
        due.is("of 12 again", d.x.cut(0, 11), 11);
        due.is("of 36", registers(12, 12, 12).x.cut(0, 35), FULL);
    }

    // Terms 4: "the fewest of its LINKS without which they do not hang together"
    private static void fewestAndMostLinksToCut() {
        due.is("of two", registers(1, 1, 0).x.cut(0, 1), 1);
        due.is("of three", registers(1, 1, 1).x.cut(0, 2), 2);
        // twelve in a chain: each is one SLIP from the next, two and more from all others
        Desk d = new Desk();
        d.namesAlone();
        d.x.line(60);
        for (int k = 0; k <= 10; k++) {
            d.row(0, "b".repeat(k) + "a".repeat(10 - k));
        }
        d.row(0, "cbbbbbbbbb");
        due.is("the LINKS of a chain", d.x.links(), 11);
        due.is("from end to end", d.x.cut(0, 11), 1);
        due.is("of neighbours", d.x.cut(5, 6), 1);
        d.x.takeBack(9);
        due.is("a chain that is broken", d.x.cut(0, 8), 1);
        due.is("over the break", d.x.cut(0, 11), NOT);
        due.is("behind the break", d.x.cut(10, 11), 1);
        Desk e = registers(12, 0, 0);
        due.is("all LINKS of a ROW", e.x.cut(3, 7), 11);
        due.is("the LINKS stay", e.x.links(), 66);
    }

    // "Refusals, the first that fits, in the order told at each act"
    private static void cutRefusedInOrder() {
        Desk d = registers(13, 0, 0);
        d.row(1, "zzzz");
        due.is("BAD, FULL", d.x.cut(0, 0), BAD);
        due.is("BAD, NOT", d.x.cut(13, 14), BAD);
        due.is("NOT, FULL", d.x.cut(0, 13), NOT);
        due.is("NOT, FULL, the other way", d.x.cut(13, 0), NOT);
        due.is("FULL", d.x.cut(0, 12), FULL);
    }
}
