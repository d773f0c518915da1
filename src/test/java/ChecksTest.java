/** Promises 28 to 31: what was checked by hand, what it bounds, what is learnt from it. */
public final class ChecksTest {
    private static final int NONE = Desk.NONE, BAD = Desk.BAD, NOT = Desk.NOT, FULL = Desk.FULL;
    private static final Due due = new Due();

    public static void main(String[] args) {
        check();
        checkFull();
        checked();
        bound();
        boundAtAFortieth();
        boundOfManyChecks();
        boundRefused();
        learnt();
        learntHalves();
        learntRefused();
        due.end();
    }

    // Promise 28
    private static void check() {
        Desk d = new Desk();
        due.is("check without rows", d.x.check(0, 1, true), BAD);
        for (int k = 0; k < 4; k++) {
            d.row(0, "a");
        }
        due.is("check(0, 1, true)", d.x.check(0, 1, true), 1);
        due.is("check(0, 2, false)", d.x.check(0, 2, false), 2);
        due.is("check(1, 2, true)", d.x.check(1, 2, true), 3);
        due.is("the same again", d.x.check(0, 1, true), 3);
        due.is("the same, the other way", d.x.check(2, 0, true), 3);
        due.is("checked(1)", d.x.checked(1), 3);
        due.is("a later one in place of the former", d.x.check(1, 0, false), 3);
        due.is("checked(1) after it", d.x.checked(1), 2);
        due.is("check(0, 0, true)", d.x.check(0, 0, true), BAD);
        due.is("check(0, 4, true)", d.x.check(0, 4, true), BAD);
        due.is("check(4, 0, true)", d.x.check(4, 0, true), BAD);
        due.is("check(-1, 0, true)", d.x.check(-1, 0, true), BAD);
        due.is("check(0, -1, true)", d.x.check(0, -1, true), BAD);
        due.is("count(6)", d.x.count(6), 3);
        d.x.takeBack(3);
        due.is("check of a row taken back", d.x.check(3, 0, true), 4);
    }

    private static void checkFull() {
        Desk d = Desk.groups(10);
        int n = 0;
        for (int a = 0; a < 10; a++) {
            for (int b = a + 1; b < 10; b++) {
                n++;
                due.is("check number " + n, d.x.check(b, a, true), n <= 40 ? n : FULL);
            }
        }
        due.is("count(6)", d.x.count(6), 40);
        due.is("one of the 40 in place of the former", d.x.check(0, 1, false), 40);
        due.is("checked(1)", d.x.checked(1), 39);
        due.is("the last of the 40", d.x.check(5, 9, false), 40);
        due.is("checked(1) again", d.x.checked(1), 38);
        due.is("another is FULL", d.x.check(8, 9, true), FULL);
        due.is("BAD is ahead of FULL", d.x.check(9, 9, true), BAD);
        due.is("checked(0) after refusals", d.x.checked(0), 40);
    }

    // Promise 29
    private static void checked() {
        Desk d = Desk.groups(3, 2);
        for (int what = 0; what < 4; what++) {
            due.is("checked(" + what + ") of none", d.x.checked(what), 0);
        }
        d.x.check(0, 1, true);
        d.x.check(2, 1, false);
        d.x.check(3, 4, false);
        d.x.check(0, 3, false);
        d.x.check(4, 0, true);
        int[] want = {5, 2, 3, 2};
        for (int what = 0; what < 4; what++) {
            due.is("checked(" + what + ")", d.x.checked(what), want[what]);
        }
        d.x.pass(1);
        d.x.takeBack(2);
        int[] less = {5, 2, 2, 1};
        for (int what = 0; what < 4; what++) {
            due.is("checked(" + what + ") less a row", d.x.checked(what), less[what]);
        }
        d.x.asOf(0);
        due.is("checked(3) as of the day before", d.x.checked(3), 2);
        d.x.line(21);
        due.is("checked(2) by a higher line", d.x.checked(2), 0);
        due.is("checked(0) by a higher line", d.x.checked(0), 5);
        d.x.line(-400);
        due.is("checked(2) by the lowest line", d.x.checked(2), 5);
        due.is("checked(3) by the lowest line", d.x.checked(3), 3);
        due.is("checked(-1)", d.x.checked(-1), BAD);
        due.is("checked(4)", d.x.checked(4), BAD);
    }

    private static void boundIs(String what, Desk d, int least, int most) {
        due.is("bound(0): " + what, d.x.bound(0), least);
        due.is("bound(1): " + what, d.x.bound(1), most);
    }

    // Promise 30
    private static void bound() {
        Desk d = Desk.groups(4);
        boundIs("none checked", d, 0, 6);
        d.x.check(0, 1, true);
        boundIs("1 of 6, right", d, 0, 5);
        d.x.check(0, 1, false);
        boundIs("1 of 6, wrong", d, 1, 6);
        d.x.check(0, 2, true);
        d.x.check(0, 3, true);
        boundIs("3 of 6, one wrong", d, 1, 4);
        d.x.check(1, 2, true);
        d.x.check(1, 3, true);
        d.x.check(2, 3, false);
        boundIs("all of 6, two wrong", d, 2, 2);
        d.x.check(2, 3, true);
        d.x.check(0, 1, true);
        boundIs("all of 6, none wrong", d, 0, 0);
        d.x.takeBack(3);
        d.x.check(0, 1, false);
        d.x.check(0, 2, false);
        d.x.check(1, 2, false);
        boundIs("all of 3 that are left, all wrong", d, 3, 3);
        d.row(0, "zz");
        d.x.check(3, 4, false);
        d.x.check(4, 0, false);
        boundIs("what is no link does not count", d, 3, 3);
    }

    private static void boundAtAFortieth() {
        Desk d = Desk.groups(9, 3, 2);
        due.is("links()", d.x.links(), 40);
        d.x.check(0, 1, false);
        boundIs("1 of 40, wrong: one in forty", d, 1, 40);
        d.x.check(0, 1, true);
        boundIs("1 of 40, right", d, 0, 39);
        d.checkLinks(39, 0);
        boundIs("39 of 40, none wrong: one in forty", d, 0, 1);
        d = Desk.groups(9, 3, 2);
        d.checkLinks(39, 39);
        boundIs("39 of 40, all wrong", d, 39, 40);
        d = Desk.groups(9, 3, 2, 2);
        due.is("links()", d.x.links(), 41);
        d.x.check(0, 1, false);
        boundIs("1 of 41, wrong: less than one in forty", d, 2, 41);
        d.checkLinks(40, 0);
        boundIs("40 of 41, none wrong: less than one in forty", d, 0, 0);
        d.checkLinks(40, 40);
        boundIs("40 of 41, all wrong", d, 41, 41);
    }

    private static void boundOfManyChecks() {
        Desk d = Desk.groups(11, 3, 2, 2);
        due.is("links()", d.x.links(), 60);
        boundIs("none of 60", d, 0, 60);
        d.checkLinks(40, 0);
        boundIs("40 of 60, none wrong", d, 0, 3);
        for (int wrong = 0; wrong <= 30; wrong += 3) {
            Desk e = Desk.groups(11, 3, 2, 2);
            e.checkLinks(30, wrong);
            int[] ends = likely(60, 30, wrong);
            boundIs("30 of 60, wrong " + wrong, e, ends[0], ends[1]);
        }
        for (int n = 1; n <= 40; n++) {
            Desk e = Desk.groups(11, 3, 2);
            e.checkLinks(n, n / 3);
            int[] ends = likely(59, n, n / 3);
            boundIs(n + " of 59, wrong " + n / 3, e, ends[0], ends[1]);
        }
    }

    /** By counting with doubles, which is near enough: no case here is close to one in forty. */
    private static int[] likely(int all, int n, int k) {
        int least = all + 1;
        int most = -1;
        for (int wrong = 0; wrong <= all; wrong++) {
            double[] odds = {1};
            // draw n links one by one; odds[x]: x of them are false ones
            for (int drawn = 0; drawn < n; drawn++) {
                double[] next = new double[drawn + 2];
                for (int x = 0; x <= drawn; x++) {
                    double hit = (double) Math.max(0, wrong - x) / (all - drawn);
                    next[x + 1] += odds[x] * hit;
                    next[x] += odds[x] * (1 - hit);
                }
                odds = next;
            }
            double atMost = 0;
            double atLeast = 0;
            for (int x = 0; x <= n; x++) {
                if (x <= k) atMost += odds[x];
                if (x >= k) atLeast += odds[x];
            }
            if (atMost >= 0.025 && atLeast >= 0.025) {
                least = Math.min(least, wrong);
                most = Math.max(most, wrong);
            }
        }
        return new int[] {least, most};
    }

    private static void boundRefused() {
        Desk d = new Desk();
        due.is("bound(-1)", d.x.bound(-1), BAD);
        due.is("bound(2)", d.x.bound(2), BAD);
        due.is("bound(0) without links", d.x.bound(0), NOT);
        due.is("bound(1) without links", d.x.bound(1), NOT);
        d.row(0, "aaaa");
        d.row(0, "bbbb");
        d.x.check(0, 1, true);
        due.is("bound(0) with a checked pair that is no link", d.x.bound(0), NOT);
        Desk e = Desk.groups(11, 3, 2, 2, 2);
        due.is("links()", e.x.links(), 61);
        due.is("bound(0) of 61", e.x.bound(0), FULL);
        due.is("bound(1) of 61", e.x.bound(1), FULL);
        due.is("BAD is ahead of FULL", e.x.bound(2), BAD);
        e.x.takeBack(20 - 1);
        due.is("bound(0) of 60", e.x.bound(0), 0);
    }

    // Promise 31
    private static void learnt() {
        Desk d = new Desk();
        for (int field = 0; field < 4; field++) {
            for (int level = 0; level < 4; level++) {
                due.is("learnt of nothing", d.x.learnt(true, field, level), 250);
                due.is("learnt of nothing, not", d.x.learnt(false, field, level), 250);
            }
        }
        d.row(0, "aaaa", 1800, 1, 0);
        d.row(0, "aaaa", 1801, 1, 1);
        d.row(1, "aaab", 1830, NONE, NONE);
        d.x.check(0, 1, true);
        d.x.check(0, 2, true);
        d.x.check(1, 2, false);
        int[][] one = {{333, 333, 167, 167}, {167, 333, 167, 333}, {400, 200, 200, 200}, {200, 200, 200, 400}};
        int[][] not = {{200, 400, 200, 200}, {200, 200, 200, 400}, {250, 250, 250, 250}, {250, 250, 250, 250}};
        for (int field = 0; field < 4; field++) {
            for (int level = 0; level < 4; level++) {
                due.is("learnt(true, " + field + ", " + level + ")", d.x.learnt(true, field, level), one[field][level]);
                due.is("learnt(false, " + field + ", " + level + ")", d.x.learnt(false, field, level), not[field][level]);
            }
        }
        d.x.pass(1);
        d.x.takeBack(1);
        due.is("pairs of known rows alone", d.x.learnt(true, 0, 0), 200);
        due.is("pairs of known rows alone, not", d.x.learnt(false, 0, 1), 250);
        d.x.asOf(0);
        due.is("as of the day before", d.x.learnt(true, 0, 0), 333);
        d.x.check(1, 0, false);
        due.is("a later check in place of it", d.x.learnt(true, 0, 0), 200);
        due.is("a later check in place of it, not", d.x.learnt(false, 0, 0), 333);
        due.is("it teaches no chances by itself", d.x.chance(true, 0, 0, 700), 700);
    }

    private static void learntHalves() {
        Desk d = Desk.groups(6);
        d.row(0, "zzzz");
        d.checkLinks(10, 0);
        d.x.check(0, 6, true);
        d.x.check(1, 6, true);
        // 12 pairs: 10 of level 0, 2 of level 3
        due.is("11 of 16: 687.5", d.x.learnt(true, 0, 0), 688);
        due.is("1 of 16: 62.5", d.x.learnt(true, 0, 1), 63);
        due.is("3 of 16: 187.5", d.x.learnt(true, 0, 3), 188);
        due.is("a field that is missing in all", d.x.learnt(true, 1, 0), 250);
        d.x.check(2, 6, true);
        due.is("4 of 17: 235.3", d.x.learnt(true, 0, 3), 235);
        due.is("11 of 17: 647.1", d.x.learnt(true, 0, 0), 647);
        due.is("1 of 17: 58.8", d.x.learnt(true, 0, 2), 59);
        Desk e = Desk.groups(10);
        e.checkLinks(40, 40);
        due.is("41 of 44: 931.8", e.x.learnt(false, 0, 0), 932);
        due.is("1 of 44: 22.7", e.x.learnt(false, 0, 3), 23);
    }

    private static void learntRefused() {
        OneSelf x = new OneSelf();
        due.is("learnt(true, -1, 0)", x.learnt(true, -1, 0), BAD);
        due.is("learnt(true, 4, 0)", x.learnt(true, 4, 0), BAD);
        due.is("learnt(false, 0, -1)", x.learnt(false, 0, -1), BAD);
        due.is("learnt(false, 0, 4)", x.learnt(false, 0, 4), BAD);
    }
}
