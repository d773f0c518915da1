/**
 * The edges that the document names of checked pairs, what they bound and what is learnt from them:
 * promises 28 to 31 and their terms. Each method is one sentence, or the part of one that names an edge.
 */
public final class CheckEdgesTest {
    private static final int NONE = Desk.NONE, BAD = Desk.BAD, NOT = Desk.NOT, FULL = Desk.FULL;
    private static final int LEAST = Integer.MIN_VALUE, MOST = Integer.MAX_VALUE;
    private static final Due due = new Due();

    public static void main(String[] args) {
        twoUnlikeRows();
        fortyPairs();
        aLaterOneInPlaceOfTheFormer();
        checkedZeroTo3();
        linksAmongThem();
        aCheckStaysWhenRowsGo();
        boundZeroAndOne();
        noLinks();
        sixtyLinks();
        boundRefusedInOrder();
        oneLink();
        noneChecked();
        allChecked();
        aFortiethOrMore();
        lessThanAFortieth();
        whatIsCheckedAndNoLink();
        learntFieldsAndLevels();
        learntOfNothing();
        learntOfKnownRows();
        learntOfWhatIsNotMissing();
        roundedToTheNearest();
        theLeastThatCanBeLearnt();
        due.end();
    }

    // Terms 5: "two unlike ROWS"; promise 28: "BAD: also a ROW with itself"
    private static void twoUnlikeRows() {
        due.is("check(0, 1, true) without ROWS", new OneSelf().check(0, 1, true), BAD);
        Desk d = new Desk();
        d.row(0, "a");
        d.row(0, "b");
        int[][] bad = {
            {0, 0}, {1, 1}, {0, 2}, {2, 0}, {2, 2}, {-1, 0}, {0, -1}, {LEAST, 0}, {0, LEAST}, {MOST, 0}, {0, MOST}, {-1, -1},
        };
        for (int[] p : bad) {
            due.is("check(" + p[0] + ", " + p[1] + ", true)", d.x.check(p[0], p[1], true), BAD);
            due.is("check(" + p[0] + ", " + p[1] + ", false)", d.x.check(p[0], p[1], false), BAD);
        }
        due.is("none is CHECKED", d.x.checked(0), 0);
        due.is("of one REGISTER, no LINK", d.x.check(0, 1, true), 1);
        for (int row = 2; row <= 35; row++) {
            d.row(1, "a");
        }
        due.is("the last two", d.x.check(34, 35, false), 2);
        due.is("the last and the first", d.x.check(35, 0, false), 3);
        due.is("the last and one more", d.x.check(35, 36, false), BAD);
    }

    // Terms 5: "CHECKED pairs, 40 at most"; promise 28: "FULL"
    private static void fortyPairs() {
        Desk d = Desk.groups(36);
        for (int k = 1; k <= 35; k++) {
            due.is("pair " + k, d.x.check(0, k, true), k);
        }
        for (int k = 36; k <= 40; k++) {
            due.is("pair " + k, d.x.check(k - 35, 35, false), k);
        }
        due.is("pair 41", d.x.check(6, 35, true), FULL);
        due.is("pair 41, the other way", d.x.check(35, 6, true), FULL);
        due.is("FULL is no FINDING", d.x.count(8), 0);
        due.is("BAD ahead of FULL", d.x.check(6, 36, true), BAD);
        due.is("BAD ahead of FULL, with itself", d.x.check(6, 6, true), BAD);
        due.is("40 are CHECKED", d.x.checked(0), 40);
        due.is("count(6)", d.x.count(6), 40);
        due.is("35 one person", d.x.checked(1), 35);
        d.x.takeBack(35);
        due.is("FULL also with a ROW taken back", d.x.check(6, 7, true), FULL);
    }

    // Terms 5: "a later one of the same pair in place of the former"
    private static void aLaterOneInPlaceOfTheFormer() {
        Desk d = Desk.groups(36);
        for (int k = 1; k <= 35; k++) {
            d.x.check(0, k, true);
        }
        due.is("the same as it was", d.x.check(0, 1, true), 35);
        due.is("one person still", d.x.checked(1), 35);
        due.is("not one person", d.x.check(0, 1, false), 35);
        due.is("one person less", d.x.checked(1), 34);
        due.is("the last, the other way", d.x.check(35, 0, false), 35);
        due.is("two less", d.x.checked(1), 33);
        for (int k = 2; k <= 6; k++) {
            d.x.check(1, k, true);
        }
        due.is("the first of 40", d.x.check(1, 0, true), 40);
        due.is("the last of 40", d.x.check(6, 1, false), 40);
        due.is("33 and 1 and 4", d.x.checked(1), 38);
    }

    // Promise 29: "0 how many, 1 one person, 2 LINKS among them, 3 .. BAD."
    private static void checkedZeroTo3() {
        Desk d = Desk.groups(3);
        int[] none = {LEAST, -1, 4, MOST};
        for (int what : none) {
            due.is("checked(" + what + ")", d.x.checked(what), BAD);
        }
        for (int what = 0; what <= 3; what++) {
            due.is("checked(" + what + ") of none", d.x.checked(what), 0);
        }
        d.x.check(0, 1, false);
        int[] want = {1, 0, 1, 1};
        for (int what = 0; what <= 3; what++) {
            due.is("checked(" + what + ") of one", d.x.checked(what), want[what]);
        }
    }

    private static void linksAmongThem() {
        Desk d = Desk.groups(2, 1);
        d.x.check(0, 1, false);
        d.x.check(0, 2, false);
        d.x.line(20);
        due.is("a SCORE on the LINE", d.x.checked(2), 1);
        d.x.line(21);
        due.is("a SCORE below the LINE", d.x.checked(2), 0);
        due.is("that are not one person", d.x.checked(3), 0);
        d.x.line(-20);
        due.is("both on the LINE", d.x.checked(3), 2);
    }

    // Terms 5: CHECKED are ROWS, be they KNOWN or not; LINKS are of KNOWN ones
    private static void aCheckStaysWhenRowsGo() {
        Desk d = Desk.groups(2);
        d.x.pass(1);
        d.x.takeBack(1);
        due.is("of a ROW taken back", d.x.check(0, 1, false), 1);
        due.is("it is CHECKED", d.x.checked(0), 1);
        due.is("it is no LINK", d.x.checked(2), 0);
        d.x.asOf(0);
        due.is("it is one as of the DAY before", d.x.checked(3), 1);
    }

    private static void boundIs(String what, Desk d, int least, int most) {
        due.is("least, " + what, d.x.bound(0), least);
        due.is("greatest, " + what, d.x.bound(1), most);
    }

    // Promise 30: "the least K (0), the greatest (1). BAD"
    private static void boundZeroAndOne() {
        Desk d = Desk.groups(2);
        int[] none = {LEAST, -1, 2, MOST};
        for (int end : none) {
            due.is("bound(" + end + ")", d.x.bound(end), BAD);
        }
        due.is("bound(0)", d.x.bound(0), 0);
        due.is("bound(1)", d.x.bound(1), 1);
    }

    // Promise 30: "NOT: there are no LINKS"
    private static void noLinks() {
        boundIs("no ROWS", new Desk(), NOT, NOT);
        boundIs("one ROW", Desk.groups(1), NOT, NOT);
        Desk d = Desk.groups(1, 1);
        d.x.check(0, 1, true);
        boundIs("two ROWS without a LINK, CHECKED", d, NOT, NOT);
        Desk e = Desk.groups(2);
        e.x.line(21);
        boundIs("a SCORE below the LINE", e, NOT, NOT);
        e.x.line(20);
        e.x.takeBack(0);
        boundIs("one of two taken back", e, NOT, NOT);
    }

    // Terms 5: "(60 at most)"; promise 30: "FULL: more than 60."
    private static void sixtyLinks() {
        Desk d = Desk.groups(11, 3, 2, 2, 2);
        due.is("LINKS", d.x.links(), 61);
        boundIs("61", d, FULL, FULL);
        due.is("FULL is no FINDING", d.x.count(8), 0);
        d.x.takeBack(19);
        due.is("LINKS less one", d.x.links(), 60);
        boundIs("60", d, 0, 60);
        boundIs("630", Desk.groups(36), FULL, FULL);
    }

    // "Refusals, the first that fits, in the order told at each act"
    private static void boundRefusedInOrder() {
        due.is("BAD, NOT", new OneSelf().bound(2), BAD);
        due.is("BAD, FULL", Desk.groups(36).x.bound(-1), BAD);
    }

    private static void oneLink() {
        Desk d = Desk.groups(2);
        boundIs("1, none CHECKED", d, 0, 1);
        d.x.check(0, 1, true);
        boundIs("1, right", d, 0, 0);
        d.x.check(0, 1, false);
        boundIs("1, wrong", d, 1, 1);
    }

    // Terms 5: "(0 to N)"
    private static void noneChecked() {
        for (int rows = 2; rows <= 11; rows++) {
            boundIs("none of " + rows * (rows - 1) / 2, Desk.groups(rows), 0, rows * (rows - 1) / 2);
        }
    }

    private static void allChecked() {
        for (int wrong = 0; wrong <= 36; wrong += 6) {
            Desk d = Desk.groups(9);
            d.checkLinks(36, wrong);
            boundIs("all of 36, wrong " + wrong, d, wrong, wrong);
        }
        int[] ends = {0, 1, 39, 40};
        for (int wrong : ends) {
            Desk d = Desk.groups(9, 3, 2);
            d.checkLinks(40, wrong);
            boundIs("all of 40, wrong " + wrong, d, wrong, wrong);
        }
    }

    // Terms 5: "are a fortieth or more"
    private static void aFortiethOrMore() {
        Desk d = Desk.groups(9, 3, 2);
        d.checkLinks(1, 1);
        boundIs("1 of 40, wrong: the one way of 40 if K is 1", d, 1, 40);
        d = Desk.groups(9, 3, 2);
        d.checkLinks(1, 0);
        boundIs("1 of 40, right: the one way of 40 if K is 39", d, 0, 39);
        d = Desk.groups(9, 3, 2);
        d.checkLinks(39, 0);
        boundIs("39 of 40, right: the one way of 40 if K is 1", d, 0, 1);
        d = Desk.groups(9, 3, 2);
        d.checkLinks(39, 39);
        boundIs("39 of 40, wrong: the one way of 40 if K is 39", d, 39, 40);
    }

    private static void lessThanAFortieth() {
        Desk d = Desk.groups(9, 3, 2, 2);
        d.checkLinks(1, 1);
        boundIs("1 of 41, wrong: one way of 41 is too few", d, 2, 41);
        d = Desk.groups(9, 3, 2, 2);
        d.checkLinks(1, 0);
        boundIs("1 of 41, right: one way of 41 is too few", d, 0, 39);
        d = Desk.groups(9, 3, 2, 2);
        d.checkLinks(40, 0);
        boundIs("40 of 41, right: one way of 41 is too few", d, 0, 0);
        d = Desk.groups(9, 3, 2, 2);
        d.checkLinks(40, 40);
        boundIs("40 of 41, wrong: one way of 41 is too few", d, 41, 41);
    }

    // Terms 5: "of all N LINKS .. n are CHECKED"
    private static void whatIsCheckedAndNoLink() {
        Desk d = Desk.groups(3, 1);
        d.x.check(0, 3, false);
        d.x.check(1, 3, false);
        d.x.check(2, 3, true);
        boundIs("three CHECKED that are no LINKS", d, 0, 3);
        d.x.check(0, 1, true);
        boundIs("and one that is", d, 0, 2);
    }

    // Promise 31: "BAD."
    private static void learntFieldsAndLevels() {
        OneSelf x = new OneSelf();
        int[] none = {LEAST, -1, 4, MOST};
        for (int k : none) {
            due.is("learnt(true, " + k + ", 0)", x.learnt(true, k, 0), BAD);
            due.is("learnt(false, 0, " + k + ")", x.learnt(false, 0, k), BAD);
            due.is("learnt(true, " + k + ", " + k + ")", x.learnt(true, k, k), BAD);
        }
        due.is("learnt(true, 3, 3)", x.learnt(true, 3, 3), 250);
    }

    private static void learntIs(String what, Desk d, boolean one, int field, int... want) {
        for (int level = 0; level <= 3; level++) {
            due.is("learnt(" + one + ", " + field + ", " + level + "), " + what, d.x.learnt(one, field, level), want[level]);
        }
    }

    // Terms 5: "LEVELS counted, each and 1, by all these and 4": of none 1 by 4
    private static void learntOfNothing() {
        Desk d = Desk.groups(2);
        for (int field = 0; field <= 3; field++) {
            learntIs("none CHECKED", d, true, field, 250, 250, 250, 250);
            learntIs("none CHECKED", d, false, field, 250, 250, 250, 250);
        }
        d.x.check(0, 1, true);
        learntIs("one, of the others", d, false, 0, 250, 250, 250, 250);
        learntIs("one", d, true, 0, 400, 200, 200, 200);
        d.x.check(0, 1, false);
        learntIs("one, of the others now", d, true, 0, 250, 250, 250, 250);
        learntIs("one now", d, false, 0, 400, 200, 200, 200);
    }

    // Terms 5: "of CHECKED pairs of KNOWN ROWS"
    private static void learntOfKnownRows() {
        Desk d = Desk.groups(2);
        d.x.check(0, 1, true);
        d.x.pass(1);
        d.x.takeBack(1);
        learntIs("the second not KNOWN", d, true, 0, 250, 250, 250, 250);
        d.x.asOf(0);
        learntIs("KNOWN as of the DAY before", d, true, 0, 400, 200, 200, 200);
        d.x.asOf(NONE);
        d.x.check(0, d.row(1, "aaaaa"), true);
        learntIs("with another", d, true, 0, 400, 200, 200, 200);
        d.x.takeBack(0);
        learntIs("the first not KNOWN", d, true, 0, 250, 250, 250, 250);
    }

    // Terms 5: "in which it is not missing"
    private static void learntOfWhatIsNotMissing() {
        Desk d = new Desk();
        d.row(0, "a", 1800, NONE, 1);
        d.row(1, "a", NONE, 3, 1);
        d.row(2, "a", 1801, 3, 0);
        d.x.check(0, 1, true);
        d.x.check(0, 2, true);
        d.x.check(1, 2, true);
        learntIs("NAMES of three", d, true, 0, 571, 143, 143, 143);
        learntIs("YEARS of one", d, true, 1, 200, 400, 200, 200);
        learntIs("PLACES of one", d, true, 2, 400, 200, 200, 200);
        learntIs("SORTS of three", d, true, 3, 286, 143, 143, 429);
    }

    // Terms 5: "rounded to the nearest (half up)"
    private static void roundedToTheNearest() {
        Desk d = Desk.groups(4, 3, 2);
        d.checkLinks(10, 0);
        d.x.check(0, 4, true);
        learntIs("11 and 1 of 15: 733.3, 66.7, 133.3", d, true, 0, 733, 67, 67, 133);
        d.x.check(0, 5, true);
        learntIs("11 and 2 of 16: 687.5, 62.5, 187.5", d, true, 0, 688, 63, 63, 188);
        d.x.check(0, 6, true);
        learntIs("11 and 3 of 17: 647.1, 58.8, 235.3", d, true, 0, 647, 59, 59, 235);
    }

    private static void theLeastThatCanBeLearnt() {
        Desk d = Desk.groups(9, 3, 2);
        d.checkLinks(40, 40);
        learntIs("41 and 1 of 44: 931.8, 22.7", d, false, 0, 932, 23, 23, 23);
    }
}
