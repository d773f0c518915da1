/** Promises 35 to 42: sheets and their findings, counts, the digest. */
public final class SheetsTest {
    private static final int NONE = Desk.NONE, BAD = Desk.BAD;
    private static final int NULL = Desk.NULL, INDEX = Desk.INDEX, CAST = Desk.CAST, STORE = Desk.STORE, SIZE = Desk.SIZE;
    private static final int LEAST = Integer.MIN_VALUE, MOST = Integer.MAX_VALUE;
    private static final Due due = new Due();

    public static void main(String[] args) {
        sheet();
        lose();
        put();
        get();
        copy();
        copyRefused();
        write();
        count();
        digestOfNothing();
        digest();
        due.end();
    }

    // Promise 35
    private static void sheet() {
        OneSelf x = new OneSelf();
        due.is("sheet(0, 0, 40)", x.sheet(0, 0, 40), 40);
        due.is("sheet(3, 2, 0)", x.sheet(3, 2, 0), 0);
        int[][] bad = {{-1, 0, 1}, {4, 0, 1}, {0, -1, 1}, {0, 3, 1}, {0, 0, 41}, {0, 0, MOST}, {4, 0, -1}, {0, 3, -1}};
        for (int[] c : bad) {
            due.is("sheet " + java.util.Arrays.toString(c), x.sheet(c[0], c[1], c[2]), BAD);
        }
        due.is("BAD is no finding", x.count(8), 0);
        due.is("sheet(0, 0, -1)", x.sheet(0, 0, -1), SIZE);
        due.is("count(8): SIZE", x.count(8), 5);
        due.is("sheet(0, 1, least)", x.sheet(0, 1, LEAST), SIZE);
        due.is("the sheet stays as it was", x.put(0, 0, 39, 7), 1);
        due.is("the sheet is new", x.sheet(0, 0, 40), 40);
        due.is("all items are 0", x.get(0, 0, 39), 0);
        for (int s = 0; s < 4; s++) {
            x.sheet(s, 0, 40);
            x.put(s, 0, 0, s + 1);
            x.put(s, 0, 39, s + 11);
        }
        x.sheet(1, 0, 40);
        due.is("the first item is 0", x.get(1, 0, 0), 0);
        due.is("the last item is 0", x.get(1, 0, 39), 0);
        due.is("the sheet before stays", x.get(0, 0, 39), 11);
        due.is("the sheet behind stays", x.get(2, 0, 0), 3);
        due.is("the last sheet, all of it", x.get(3, 0, 39), 14);
        x.sheet(0, 0, 40);
        x.put(0, 0, 5, 9);
        x.sheet(0, 2, 6);
        due.is("another type", x.get(0, 2, 5), 0);
        due.is("no longer the former", x.get(0, 0, 5), LEAST);
        x.put(0, 2, 5, 9);
        x.sheet(0, 2, 5);
        due.is("not so many items", x.get(0, 2, 5), LEAST);
        x.sheet(0, 2, 6);
        due.is("items are 0 again", x.get(0, 2, 5), 0);
    }

    // Promise 36
    private static void lose() {
        OneSelf x = new OneSelf();
        x.sheet(2, 1, 17);
        due.is("lose(-1)", x.lose(-1), BAD);
        due.is("lose(4)", x.lose(4), BAD);
        due.is("lose(2)", x.lose(2), 17);
        due.is("count(8) before a finding", x.count(8), 0);
        due.is("lose(2) again", x.lose(2), NULL);
        due.is("count(8): NULL", x.count(8), 1);
        due.is("get of a lost sheet", x.get(2, 1, 0), LEAST);
        x.sheet(2, 1, 0);
        due.is("lose of an empty sheet", x.lose(2), 0);
    }

    // Promise 37
    private static void put() {
        OneSelf x = new OneSelf();
        int[] values = {0, 1, -1, 127, 128, 255, 256, -128, -129, 32767, 32768, 65535, 65536, -32768, -32769, MOST, LEAST};
        for (int type = 0; type < 3; type++) {
            x.sheet(type, type, 3);
            for (int v : values) {
                long kept = type == 0 ? (byte) v : type == 1 ? (short) v : v;
                due.is("put(" + type + ", " + type + ", 1, " + v + ")", x.put(type, type, 1, v), 1);
                due.is("then get", x.get(type, type, 1), kept);
            }
            due.is("the item before", x.get(type, type, 0), 0);
            due.is("the item behind", x.get(type, type, 2), 0);
        }
        due.is("no finding", x.count(8), 0);
        int[][] bad = {{-1, 0, 0}, {4, 0, 0}, {0, -1, 0}, {0, 3, 0}, {3, 3, 9}};
        for (int[] c : bad) {
            due.is("put " + java.util.Arrays.toString(c), x.put(c[0], c[1], c[2], 1), BAD);
        }
        due.is("put on a lost sheet", x.put(3, 0, 99, 1), NULL);
        due.is("count(8): NULL", x.count(8), 1);
        due.is("put of another type, ahead of INDEX", x.put(0, 1, 99, 1), CAST);
        due.is("count(8): CAST", x.count(8), 3);
        due.is("put behind the items", x.put(0, 0, 3, 1), INDEX);
        due.is("count(8): INDEX", x.count(8), 2);
        due.is("put before the items", x.put(0, 0, -1, 1), INDEX);
        due.is("put far behind", x.put(0, 0, MOST, 1), INDEX);
        x.sheet(0, 0, 0);
        due.is("put on an empty sheet", x.put(0, 0, 0, 1), INDEX);
    }

    // Promise 38
    private static void get() {
        OneSelf x = new OneSelf();
        x.sheet(1, 1, 2);
        x.put(1, 1, 0, 300);
        x.put(1, 1, 1, -300);
        due.is("get(1, 1, 0)", x.get(1, 1, 0), 300);
        due.is("get(1, 1, 1)", x.get(1, 1, 1), -300);
        int[][] bad = {{-1, 1, 0}, {4, 1, 0}, {1, -1, 0}, {1, 3, 0}};
        for (int[] c : bad) {
            due.is("get " + java.util.Arrays.toString(c), x.get(c[0], c[1], c[2]), LEAST);
        }
        due.is("BAD is no finding", x.count(8), 0);
        due.is("get of a lost sheet", x.get(0, 1, 0), LEAST);
        due.is("count(8): NULL", x.count(8), 1);
        due.is("get of another type, ahead of INDEX", x.get(1, 2, 2), LEAST);
        due.is("count(8): CAST", x.count(8), 3);
        due.is("get behind the items", x.get(1, 1, 2), LEAST);
        due.is("count(8): INDEX", x.count(8), 2);
        due.is("get(1, 1, 0) goes on", x.get(1, 1, 0), 300);
        due.is("count(8) stays", x.count(8), 2);
        due.is("get before the items", x.get(1, 1, -1), LEAST);
    }

    private static void fill(OneSelf x, int s, int type, int n) {
        x.sheet(s, type, n);
        for (int i = 0; i < n; i++) {
            x.put(s, type, i, 10 * s + i + 1);
        }
    }

    private static void items(String what, OneSelf x, int s, int type, int... want) {
        for (int i = 0; i < want.length; i++) {
            due.is(what + ": item " + i, x.get(s, type, i), want[i]);
        }
    }

    // Promise 39
    private static void copy() {
        OneSelf x = new OneSelf();
        fill(x, 0, 1, 5);
        fill(x, 1, 1, 4);
        due.is("copy(0, 1, 1, 0, 3)", x.copy(0, 1, 1, 0, 3), 1);
        items("copied", x, 1, 1, 2, 3, 4, 14);
        items("the first stays", x, 0, 1, 1, 2, 3, 4, 5);
        due.is("copy onto itself, upward", x.copy(0, 0, 0, 1, 4), 1);
        items("as they were", x, 0, 1, 1, 1, 2, 3, 4);
        fill(x, 0, 1, 5);
        due.is("copy onto itself, downward", x.copy(0, 1, 0, 0, 4), 1);
        items("as they were, downward", x, 0, 1, 2, 3, 4, 5, 5);
        due.is("copy of all", x.copy(1, 0, 0, 1, 4), 1);
        items("all", x, 0, 1, 2, 2, 3, 4, 14);
        due.is("copy of none", x.copy(0, 5, 1, 4, 0), 1);
        items("none", x, 1, 1, 2, 3, 4, 14);
        due.is("no finding", x.count(8), 0);
    }

    private static void copyRefused() {
        OneSelf x = new OneSelf();
        fill(x, 0, 1, 5);
        fill(x, 1, 1, 4);
        fill(x, 2, 2, 5);
        int[][] bad = {{-1, 0, 0, 0, 1}, {4, 0, 0, 0, 1}, {0, 0, -1, 0, 1}, {0, 0, 4, 0, 1}, {3, 0, 4, 0, 1}};
        for (int[] c : bad) {
            due.is("copy " + java.util.Arrays.toString(c), x.copy(c[0], c[1], c[2], c[3], c[4]), BAD);
        }
        due.is("BAD is no finding", x.count(8), 0);
        due.is("copy from a lost sheet", x.copy(3, 0, 0, 0, 1), NULL);
        due.is("copy to a lost sheet, ahead of INDEX", x.copy(0, 9, 3, 0, 1), NULL);
        due.is("copy of a lost sheet to itself", x.copy(3, 0, 3, 0, 0), NULL);
        due.is("count(8): NULL", x.count(8), 1);
        due.is("unlike types, ahead of INDEX", x.copy(0, 9, 2, 0, 1), STORE);
        due.is("count(8): STORE", x.count(8), 4);
        due.is("unlike types, of none", x.copy(2, 0, 1, 0, 0), STORE);
        int[][] index = {
            {-1, 0, 1}, {0, -1, 1}, {0, 0, -1}, {0, 0, 5}, {5, 0, 1}, {0, 4, 1}, {1, 0, 5}, {0, 1, 4}, {6, 0, 0}, {0, 5, 0},
            {MOST, 0, MOST}, {0, MOST, 1}, {1, 0, MOST}, {LEAST, 0, 1}, {0, 0, LEAST}, {5, 4, LEAST}, {LEAST, LEAST, LEAST},
        };
        for (int[] c : index) {
            x.lose(3);
            due.is("copy(0, .., 1, ..) " + java.util.Arrays.toString(c), x.copy(0, c[0], 1, c[1], c[2]), INDEX);
            due.is("count(8): INDEX", x.count(8), 2);
        }
        items("nothing came over", x, 1, 1, 11, 12, 13, 14);
        items("nothing went", x, 0, 1, 1, 2, 3, 4, 5);
    }

    // Promise 40
    private static void write() {
        Desk d = new Desk();
        OneSelf x = d.x;
        d.row(0, "banana");
        d.row(0, "abcdefghij");
        d.sounds("a=1;n=2");
        fill(x, 0, 0, 8);
        due.is("write(0, 0)", x.write(0, 0), 6);
        items("b12121", x, 0, 0, 'b', '1', '2', '1', '2', '1', 7, 8);
        fill(x, 1, 1, 4);
        due.is("as many as there are items", x.write(0, 1), 4);
        items("b121", x, 1, 1, 'b', '1', '2', '1');
        fill(x, 2, 2, 10);
        due.is("write(1, 2)", x.write(1, 2), 10);
        items("abcdefghij", x, 2, 2, 'a', 'b', 'c', 'd', 'e', 'f', 'g', 'h', 'i', 'j');
        x.sheet(1, 1, 0);
        due.is("write on an empty sheet", x.write(0, 1), 0);
        d.x.takeBack(0);
        due.is("write of a row taken back", x.write(0, 0), 6);
        due.is("write(2, 0)", x.write(2, 0), BAD);
        due.is("write(-1, 0)", x.write(-1, 0), BAD);
        due.is("write(0, -1)", x.write(0, -1), BAD);
        due.is("write(0, 4)", x.write(0, 4), BAD);
        due.is("no finding", x.count(8), 0);
        x.lose(2);
        due.is("write on a lost sheet", x.write(0, 2), NULL);
        due.is("BAD is ahead of NULL", x.write(2, 2), BAD);
        due.is("count(8): NULL", x.count(8), 1);
        // what was written can be a name again, as far as it is letters
        x.sheet(2, 2, 3);
        x.write(1, 2);
        due.is("a row of what was written", x.row(0, 2, 0, 3, NONE, NONE, NONE), 2);
        due.isTrue("its name", d.nameOf(2).equals("abc"));
    }

    // Promise 41
    private static void count() {
        Desk d = new Desk();
        OneSelf x = d.x;
        int[] registers = {0, 1, 1, 2, 2, 2};
        for (int register : registers) {
            d.row(register, "abc");
        }
        x.pass(4);
        x.takeBack(5);
        d.row(0, "abc");
        x.check(0, 1, true);
        x.check(0, 2, false);
        d.sounds("a=1;");
        x.lose(0);
        int[] want = {4, 7, 6, 2, 2, 2, 2, 4, 1};
        for (int what = 0; what <= 8; what++) {
            due.is("count(" + what + ")", x.count(what), want[what]);
        }
        x.asOf(3);
        int[] before = {4, 7, 6, 1, 2, 3, 2, 4, 1};
        for (int what = 0; what <= 8; what++) {
            due.is("count(" + what + ") as of 3", x.count(what), before[what]);
        }
        due.is("count(-1)", x.count(-1), BAD);
        due.is("count(9)", x.count(9), BAD);
    }

    // Promise 42
    private static void digestOfNothing() {
        OneSelf x = new OneSelf();
        long h = 17;
        // eight counts, then fault, links, three of bundles, four of checked, pairs, two of laid: all 0
        for (int k = 0; k < 8 + 1 + 1 + 3 + 4 + 1 + 2; k++) {
            h *= 31;
        }
        due.is("digest() of nothing", x.digest(), h);
        x.pass(1);
        long first = 31 * 17 + 1;
        for (int k = 1; k < 20; k++) {
            first *= 31;
        }
        due.is("digest() of a day", x.digest(), first);
    }

    private static long told(OneSelf x) {
        long h = 17;
        for (int what = 0; what <= 7; what++) h = 31 * h + x.count(what);
        for (int row = 0; row < x.count(1); row++) {
            for (int what = 0; what <= 7; what++) h = 31 * h + x.about(row, what);
        }
        h = 31 * h + x.fault();
        h = 31 * h + x.links();
        for (int what = 0; what <= 2; what++) h = 31 * h + x.bundles(what);
        for (int what = 0; what <= 3; what++) h = 31 * h + x.checked(what);
        h = 31 * h + x.pairs(63);
        h = 31 * h + x.laid(0, 1, 0);
        return 31 * h + x.laid(0, 1, 1);
    }

    private static void digest() {
        Desk d = new Desk();
        OneSelf x = d.x;
        d.row(0, "anna", 1800, 1, 0);
        d.row(1, "anne", 1801, 1, NONE);
        d.row(1, "otto", NONE, 2, 1);
        d.row(2, "anna", 1800, NONE, 1);
        due.is("digest() with rows", x.digest(), told(x));
        x.check(0, 1, true);
        due.is("digest() with a check", x.digest(), told(x));
        d.sounds("a=1");
        due.is("digest() with sounds", x.digest(), told(x));
        x.pass(9);
        x.takeBack(1);
        due.is("digest() with a row taken back", x.digest(), told(x));
        x.asOf(3);
        due.is("digest() as of a day", x.digest(), told(x));
        long before = x.digest();
        x.lose(0);
        x.put(0, 9, 0, 0);
        x.row(0, 0, 0, 1, NONE, NONE, NONE);
        x.sheet(1, 0, -1);
        due.is("refusals change nothing in it", x.digest(), before);
        due.is("count(8) is changed", x.count(8), 5);
        for (int k = 0; k < 10; k++) {
            d.row(0, "z");
        }
        x.asOf(NONE);
        due.is("laid is NOT", x.laid(0, 1, 0), Desk.NOT);
        due.is("digest() with NOT", x.digest(), told(x));
        d.x.line(-400);
        due.is("digest() by another line", x.digest(), told(x));
        Desk e = new Desk();
        for (int k = 0; k < 36; k++) {
            e.row(k / 13, "name" + (char) ('a' + k % 7), 1800 + k, k % 8, k % 2);
        }
        e.sounds("a=1;b=2");
        for (int k = 0; k < 40; k++) {
            e.x.check(k % 36, (k * 5 + 1) % 36, k % 3 == 0);
        }
        due.is("digest() of 36 rows", e.x.digest(), told(e.x));
        Naive naive = new Naive();
        due.is("of nothing, by a second program", new OneSelf().digest(), naive.digest());
    }
}
