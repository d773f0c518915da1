/**
 * The edges that the document names of sheets, findings, counts and the digest: promises 35 to 42 and
 * their terms. Each method is one sentence, or the part of one that names an edge.
 */
public final class SheetEdgesTest {
    private static final int NONE = Desk.NONE, BAD = Desk.BAD, NOT = Desk.NOT;
    private static final int NULL = Desk.NULL, INDEX = Desk.INDEX, CAST = Desk.CAST, STORE = Desk.STORE, SIZE = Desk.SIZE;
    private static final int LEAST = Integer.MIN_VALUE, MOST = Integer.MAX_VALUE;
    private static final Due due = new Due();

    public static void main(String[] args) {
        sheetsAre0To3();
        typesAre0To2();
        zeroTo40Items();
        itemsAreZeroAtFirst();
        belowZeroIsASize();
        sheetRefusedInOrder();
        loseALostSheet();
        theLowestBits();
        thereIsNoSuchItem();
        itHasAnotherType();
        putRefusedInOrder();
        getIsTheLeastInt();
        anItemThatIsTheLeastInt();
        copyOfNoneAndAll();
        copyAsTheyWere();
        copyOutside();
        copyThatWraps();
        copyRefusedInOrder();
        unlikeTypes();
        asManyAsThereAreItems();
        writeRefused();
        countZeroTo8();
        theLatestFinding();
        findingsChangeNothingElse();
        digestThatWraps();
        digestWithNot();
        theLastOf512Calls();
        due.end();
    }

    // Terms 1: "SHEETS 0 .. 3"
    private static void sheetsAre0To3() {
        int[] none = {LEAST, -1, 4, MOST};
        for (int s : none) {
            OneSelf x = new OneSelf();
            due.is("sheet(" + s + ", 0, 1)", x.sheet(s, 0, 1), BAD);
            due.is("lose(" + s + ")", x.lose(s), BAD);
            due.is("put(" + s + ", 0, 0, 1)", x.put(s, 0, 0, 1), BAD);
            due.is("get(" + s + ", 0, 0)", x.get(s, 0, 0), LEAST);
            due.is("copy(" + s + ", 0, 0, 0, 0)", x.copy(s, 0, 0, 0, 0), BAD);
            due.is("copy(0, 0, " + s + ", 0, 0)", x.copy(0, 0, s, 0, 0), BAD);
            due.is("BAD is no FINDING", x.count(8), 0);
        }
        OneSelf x = new OneSelf();
        for (int s = 0; s <= 3; s++) {
            due.is("sheet(" + s + ", 2, 40)", x.sheet(s, 2, 40), 40);
            due.is("its first item", x.put(s, 2, 0, 10 + s), 1);
            due.is("its last item", x.put(s, 2, 39, 20 + s), 1);
        }
        for (int s = 0; s <= 3; s++) {
            due.is("the first item of " + s, x.get(s, 2, 0), 10 + s);
            due.is("the last item of " + s, x.get(s, 2, 39), 20 + s);
            due.is("lose(" + s + ")", x.lose(s), 40);
        }
    }

    // Terms 1: "a TYPE: 0 bytes, 1 shorts, 2 ints"
    private static void typesAre0To2() {
        int[] none = {LEAST, -1, 3, MOST};
        OneSelf x = new OneSelf();
        x.sheet(0, 0, 1);
        for (int type : none) {
            due.is("sheet(1, " + type + ", 1)", x.sheet(1, type, 1), BAD);
            due.is("put(0, " + type + ", 0, 1)", x.put(0, type, 0, 1), BAD);
            due.is("get(0, " + type + ", 0)", x.get(0, type, 0), LEAST);
        }
        due.is("BAD is no FINDING", x.count(8), 0);
        due.is("SHEET 1 is LOST still", x.lose(1), NULL);
        for (int type = 0; type <= 2; type++) {
            due.is("sheet(1, " + type + ", 1)", x.sheet(1, type, 1), 1);
        }
    }

    // Terms 1: "of 0 to 40 items"; promise 35: "BAD: .. above 40"
    private static void zeroTo40Items() {
        OneSelf x = new OneSelf();
        int[] none = {41, 42, 255, MOST};
        for (int n : none) {
            due.is("sheet(0, 2, " + n + ")", x.sheet(0, 2, n), BAD);
        }
        due.is("LOST still", x.lose(0), NULL);
        due.is("sheet(0, 2, 0)", x.sheet(0, 2, 0), 0);
        due.is("no item 0", x.put(0, 2, 0, 1), INDEX);
        due.is("it is not LOST", x.lose(0), 0);
        due.is("sheet(0, 2, 1)", x.sheet(0, 2, 1), 1);
        due.is("item 0", x.put(0, 2, 0, 1), 1);
        due.is("no item 1", x.put(0, 2, 1, 1), INDEX);
        due.is("sheet(0, 2, 40)", x.sheet(0, 2, 40), 40);
        due.is("item 39", x.put(0, 2, 39, 1), 1);
        due.is("no item 40", x.put(0, 2, 40, 1), INDEX);
    }

    // Terms 1: "(0 at first)"; promise 35: "A SHEET is a new row"
    private static void itemsAreZeroAtFirst() {
        OneSelf x = new OneSelf();
        for (int round = 0; round <= 1; round++) {
            x.sheet(0, 2, 40);
            for (int i = 0; i < 40; i++) {
                due.is("item " + i + " at first, round " + round, x.get(0, 2, i), 0);
                x.put(0, 2, i, -1);
            }
        }
        x.sheet(0, 2, 3);
        x.sheet(0, 2, 40);
        due.is("behind a smaller one", x.get(0, 2, 3), 0);
        due.is("behind a smaller one, the last", x.get(0, 2, 39), 0);
        x.put(0, 2, 7, 9);
        x.lose(0);
        x.sheet(0, 0, 8);
        due.is("behind a LOST one", x.get(0, 0, 7), 0);
    }

    // Terms 1: "5 SIZE: below 0"
    private static void belowZeroIsASize() {
        int[] below = {-1, -2, -40, LEAST};
        for (int n : below) {
            OneSelf x = new OneSelf();
            due.is("sheet(0, 0, " + n + ")", x.sheet(0, 0, n), SIZE);
            due.is("count(8)", x.count(8), 5);
            due.is("LOST still", x.lose(0), NULL);
            x.sheet(0, 0, 4);
            due.is("sheet(0, 2, " + n + ") in place of one", x.sheet(0, 2, n), SIZE);
            due.is("which stays", x.lose(0), 4);
        }
    }

    private static void sheetRefusedInOrder() {
        OneSelf x = new OneSelf();
        due.is("BAD SHEET, SIZE", x.sheet(4, 0, -1), BAD);
        due.is("BAD TYPE, SIZE", x.sheet(0, 3, -1), BAD);
        due.is("BAD is no FINDING", x.count(8), 0);
    }

    // Promise 36: "NULL."
    private static void loseALostSheet() {
        OneSelf x = new OneSelf();
        due.is("LOST at first", x.lose(3), NULL);
        due.is("count(8)", x.count(8), 1);
        x.sheet(3, 0, 7);
        due.is("how many items it had", x.lose(3), 7);
        due.is("LOST again", x.lose(3), NULL);
        due.is("its items are gone", x.get(3, 0, 0), LEAST);
    }

    // Promise 37: "v (the lowest bits that it has)"
    private static void theLowestBits() {
        int[][] want = {
            {0, 127, 127}, {0, 128, -128}, {0, 255, -1}, {0, 256, 0}, {0, -128, -128}, {0, -129, 127}, {0, MOST, -1}, {0, LEAST, 0},
            {1, 32767, 32767}, {1, 32768, -32768}, {1, 65535, -1}, {1, 65536, 0}, {1, -32768, -32768}, {1, -32769, 32767},
            {1, MOST, -1}, {1, LEAST, 0}, {1, 255, 255}, {2, MOST, MOST}, {2, LEAST + 1, LEAST + 1}, {2, 65536, 65536},
        };
        for (int[] w : want) {
            OneSelf x = new OneSelf();
            x.sheet(0, w[0], 1);
            due.is("put(0, " + w[0] + ", 0, " + w[1] + ")", x.put(0, w[0], 0, w[1]), 1);
            due.is("get(0, " + w[0] + ", 0)", x.get(0, w[0], 0), w[2]);
        }
    }

    // Terms 1: "2 INDEX: there is no such item"
    private static void thereIsNoSuchItem() {
        OneSelf x = new OneSelf();
        x.sheet(0, 1, 5);
        int[] none = {LEAST, -1, 5, 39, 40, 65536, MOST};
        for (int i : none) {
            due.is("put(0, 1, " + i + ", 7)", x.put(0, 1, i, 7), INDEX);
            due.is("get(0, 1, " + i + ")", x.get(0, 1, i), LEAST);
            due.is("count(8)", x.count(8), 2);
        }
        for (int i = 0; i < 5; i++) {
            due.is("item " + i + " is untouched", x.get(0, 1, i), 0);
        }
    }

    // Terms 1: "3 CAST: it has another TYPE"
    private static void itHasAnotherType() {
        for (int has = 0; has <= 2; has++) {
            for (int as = 0; as <= 2; as++) {
                OneSelf x = new OneSelf();
                x.sheet(0, has, 1);
                due.is("TYPE " + has + ", put as " + as, x.put(0, as, 0, 7), has == as ? 1 : CAST);
                due.is("TYPE " + has + ", get as " + as, x.get(0, as, 0), has == as ? 7 : LEAST);
                due.is("count(8)", x.count(8), has == as ? 0 : 3);
                due.is("the item", x.get(0, has, 0), has == as ? 7 : 0);
            }
        }
    }

    // Promises 37, 38: "BAD; NULL; CAST; INDEX."
    private static void putRefusedInOrder() {
        OneSelf x = new OneSelf();
        x.sheet(0, 1, 2);
        due.is("BAD, NULL", x.put(1, 3, 9, 0), BAD);
        due.is("BAD, CAST, INDEX", x.put(0, 3, 9, 0), BAD);
        due.is("NULL, INDEX", x.put(1, 0, 9, 0), NULL);
        due.is("CAST, INDEX", x.put(0, 0, 9, 0), CAST);
        due.is("CAST, INDEX below", x.put(0, 2, -1, 0), CAST);
        due.is("INDEX", x.put(0, 1, 2, 0), INDEX);
        int[][] gets = {{1, 3, 9, 2}, {0, 3, 9, 2}, {1, 0, 9, 1}, {0, 0, 9, 3}, {0, 2, -1, 3}, {0, 1, 2, 2}};
        for (int[] g : gets) {
            due.is("get(" + g[0] + ", " + g[1] + ", " + g[2] + ")", x.get(g[0], g[1], g[2]), LEAST);
            due.is("count(8) after it", x.count(8), g[3]);
        }
    }

    // Promise 38: "BAD: the least int; so are NULL, CAST, INDEX (count() 8 tells)."
    private static void getIsTheLeastInt() {
        OneSelf x = new OneSelf();
        due.is("BAD", x.get(4, 0, 0), LEAST);
        due.is("count(8) after BAD", x.count(8), 0);
        due.is("NULL", x.get(0, 0, 0), LEAST);
        due.is("count(8) after NULL", x.count(8), 1);
        x.sheet(0, 0, 1);
        due.is("CAST", x.get(0, 1, 0), LEAST);
        due.is("count(8) after CAST", x.count(8), 3);
        due.is("INDEX", x.get(0, 0, 1), LEAST);
        due.is("count(8) after INDEX", x.count(8), 2);
        due.is("BAD again", x.get(0, 3, 0), LEAST);
        due.is("count(8) stays", x.count(8), 2);
    }

    private static void anItemThatIsTheLeastInt() {
        OneSelf x = new OneSelf();
        x.sheet(0, 2, 1);
        due.is("put the least int", x.put(0, 2, 0, LEAST), 1);
        due.is("get it", x.get(0, 2, 0), LEAST);
        due.is("no FINDING", x.count(8), 0);
    }

    private static void fill(OneSelf x, int s, int type, int n) {
        x.sheet(s, type, n);
        for (int i = 0; i < n; i++) {
            x.put(s, type, i, 10 * s + i);
        }
    }

    private static void items(String what, OneSelf x, int s, int type, int... want) {
        for (int i = 0; i < want.length; i++) {
            due.is(what + ", item " + i, x.get(s, type, i), want[i]);
        }
        due.is(what + ", no more", x.put(s, type, want.length, 0), INDEX);
    }

    // Promise 39: "n items of SHEET s, from i on, come to SHEET t .. from j on"
    private static void copyOfNoneAndAll() {
        OneSelf x = new OneSelf();
        fill(x, 0, 2, 40);
        fill(x, 1, 2, 40);
        due.is("of none", x.copy(0, 0, 1, 0, 0), 1);
        due.is("of none, at the ends", x.copy(0, 40, 1, 40, 0), 1);
        due.is("nothing came", x.get(1, 2, 0), 10);
        due.is("the last to the first", x.copy(0, 39, 1, 0, 1), 1);
        due.is("it came", x.get(1, 2, 0), 39);
        due.is("the first to the last", x.copy(0, 0, 1, 39, 1), 1);
        due.is("it came there", x.get(1, 2, 39), 0);
        due.is("of all 40", x.copy(0, 0, 1, 0, 40), 1);
        for (int i = 0; i < 40; i++) {
            due.is("item " + i + " came", x.get(1, 2, i), i);
        }
        x.sheet(2, 2, 0);
        due.is("between empty ones", x.copy(2, 0, 2, 0, 0), 1);
        due.is("from an empty one", x.copy(2, 0, 0, 40, 0), 1);
        due.is("no FINDING", x.count(8), 0);
    }

    // Promise 39: "(perhaps s, as they were)"
    private static void copyAsTheyWere() {
        OneSelf x = new OneSelf();
        fill(x, 0, 0, 6);
        due.is("one upward", x.copy(0, 0, 0, 1, 5), 1);
        items("one upward", x, 0, 0, 0, 0, 1, 2, 3, 4);
        fill(x, 0, 0, 6);
        due.is("one downward", x.copy(0, 1, 0, 0, 5), 1);
        items("one downward", x, 0, 0, 1, 2, 3, 4, 5, 5);
        fill(x, 0, 0, 6);
        due.is("onto its place", x.copy(0, 0, 0, 0, 6), 1);
        items("onto its place", x, 0, 0, 0, 1, 2, 3, 4, 5);
        due.is("half upon half", x.copy(0, 0, 0, 3, 3), 1);
        items("half upon half", x, 0, 0, 0, 1, 2, 0, 1, 2);
    }

    // Promise 39: "INDEX: below 0, not so many."
    private static void copyOutside() {
        int[][] index = {
            {-1, 0, 1}, {0, -1, 1}, {0, 0, -1}, {-1, 0, 0}, {0, -1, 0}, {5, 0, 1}, {4, 0, 2}, {0, 3, 1}, {0, 2, 2}, {0, 0, 4},
            {6, 0, 0}, {0, 4, 0}, {0, 0, 6}, {-1, -1, -1}, {-1, 0, 2}, {0, -1, 2},
        };
        for (int[] c : index) {
            OneSelf x = new OneSelf();
            fill(x, 0, 1, 5);
            fill(x, 1, 1, 3);
            String call = "copy(0, " + c[0] + ", 1, " + c[1] + ", " + c[2] + ")";
            due.is(call, x.copy(0, c[0], 1, c[1], c[2]), INDEX);
            due.is("count(8) after it", x.count(8), 2);
            items("nothing went, " + call, x, 0, 1, 0, 1, 2, 3, 4);
            items("nothing came, " + call, x, 1, 1, 10, 11, 12);
        }
        OneSelf x = new OneSelf();
        fill(x, 0, 1, 5);
        fill(x, 1, 1, 3);
        due.is("the last three to all", x.copy(0, 2, 1, 0, 3), 1);
        due.is("to the last", x.copy(0, 4, 1, 2, 1), 1);
    }

    private static void copyThatWraps() {
        int[][] index = {
            {MOST, 0, 1}, {0, MOST, 1}, {0, 0, MOST}, {1, 1, MOST}, {MOST, MOST, MOST}, {MOST, 0, MOST}, {LEAST, 0, 1},
            {0, LEAST, 1}, {0, 0, LEAST}, {LEAST, LEAST, LEAST}, {MOST, MOST, LEAST}, {1, 1, LEAST}, {LEAST, LEAST, MOST},
            {MOST, 0, 0}, {MOST - 1, 0, 2}, {1 << 30, 1 << 30, 1 << 30}, {40, 0, MOST - 39},
        };
        for (int[] c : index) {
            OneSelf x = new OneSelf();
            fill(x, 0, 1, 40);
            fill(x, 1, 1, 40);
            due.is("copy(0, " + c[0] + ", 1, " + c[1] + ", " + c[2] + ")", x.copy(0, c[0], 1, c[1], c[2]), INDEX);
            due.is("copy(0, " + c[0] + ", 0, " + c[1] + ", " + c[2] + ")", x.copy(0, c[0], 0, c[1], c[2]), INDEX);
        }
    }

    // Promise 39: "BAD: the SHEETS; NULL: s, t; STORE; INDEX"
    private static void copyRefusedInOrder() {
        OneSelf x = new OneSelf();
        x.sheet(0, 0, 1);
        x.sheet(1, 1, 1);
        due.is("BAD t, NULL s", x.copy(2, 9, 4, 0, 1), BAD);
        due.is("BAD s, NULL t", x.copy(-1, 9, 2, 0, 1), BAD);
        due.is("BAD is no FINDING", x.count(8), 0);
        due.is("NULL s, INDEX", x.copy(2, 9, 0, 0, 1), NULL);
        due.is("NULL t, INDEX", x.copy(0, 9, 2, 0, 1), NULL);
        due.is("NULL both", x.copy(2, 0, 3, 0, 0), NULL);
        due.is("count(8) after NULL", x.count(8), 1);
        due.is("STORE, INDEX", x.copy(0, 9, 1, 0, 1), STORE);
        due.is("STORE, INDEX below", x.copy(1, 0, 0, 0, -1), STORE);
        due.is("count(8) after STORE", x.count(8), 4);
        due.is("INDEX", x.copy(0, 9, 0, 0, 1), INDEX);
    }

    // Terms 1: "4 STORE: unlike TYPES"
    private static void unlikeTypes() {
        for (int from = 0; from <= 2; from++) {
            for (int to = 0; to <= 2; to++) {
                OneSelf x = new OneSelf();
                fill(x, 0, from, 2);
                fill(x, 1, to, 2);
                due.is("copy of TYPE " + from + " to " + to, x.copy(0, 0, 1, 0, 1), from == to ? 1 : STORE);
                due.is("of none, TYPE " + from + " to " + to, x.copy(0, 0, 1, 0, 0), from == to ? 1 : STORE);
                due.is("what is there", x.get(1, to, 0), from == to ? 0 : 10);
            }
        }
    }

    // Promise 40: "from item 0 on (the lowest bits), as many as there are items: how many"
    private static void asManyAsThereAreItems() {
        Desk d = new Desk();
        d.row(0, "abcdefghij");
        d.row(0, "a");
        for (int type = 0; type <= 2; type++) {
            for (int n = 0; n <= 12; n++) {
                d.x.sheet(0, type, n);
                int all = Math.min(n, 10);
                due.is("ten signs to " + n + " items of TYPE " + type, d.x.write(0, 0), all);
                due.is("the last of them", d.x.get(0, type, all - 1), n == 0 ? LEAST : 'a' + all - 1);
                due.is("what is behind", d.x.get(0, type, 10), n > 10 ? 0 : LEAST);
            }
        }
        d.x.sheet(0, 1, 2);
        d.x.put(0, 1, 1, 77);
        due.is("one sign to two items", d.x.write(1, 0), 1);
        due.is("the first", d.x.get(0, 1, 0), 'a');
        due.is("the second stays", d.x.get(0, 1, 1), 77);
        d.sounds("z=0;j=9");
        d.x.sheet(0, 0, 10);
        due.is("ten signs with a figure", d.x.write(0, 0), 10);
        due.is("the figure", d.x.get(0, 0, 9), '9');
    }

    // Promise 40: "BAD; NULL."
    private static void writeRefused() {
        due.is("write(0, 0) without ROWS, LOST", new OneSelf().write(0, 0), BAD);
        Desk d = new Desk();
        d.row(0, "a");
        int[] rows = {LEAST, -1, 1, 36, MOST};
        for (int row : rows) {
            due.is("write(" + row + ", 3)", d.x.write(row, 3), BAD);
            due.is("write(" + row + ", 0), LOST", d.x.write(row, 0), BAD);
        }
        int[] none = {LEAST, -1, 4, MOST};
        for (int s : none) {
            due.is("write(0, " + s + ")", d.x.write(0, s), BAD);
        }
        due.is("BAD is no FINDING", d.x.count(8), 0);
        due.is("write(0, 0), LOST", d.x.write(0, 0), NULL);
        due.is("count(8)", d.x.count(8), 1);
        due.is("write(0, 3)", d.x.write(0, 3), 1);
    }

    // Promise 41: 0 to 8, "BAD."
    private static void countZeroTo8() {
        OneSelf x = new OneSelf();
        int[] none = {LEAST, -1, 9, MOST};
        for (int what : none) {
            due.is("count(" + what + ")", x.count(what), BAD);
        }
        for (int what = 0; what <= 8; what++) {
            due.is("count(" + what + ") at first", x.count(what), 0);
        }
        Desk d = new Desk();
        for (int row = 0; row <= 35; row++) {
            d.row(row < 30 ? 2 : row % 2, "a");
        }
        int[] want = {0, 36, 36, 3, 3, 30, 0, 0, 0};
        for (int what = 0; what <= 8; what++) {
            due.is("count(" + what + ") of 36 ROWS", d.x.count(what), want[what]);
        }
    }

    // Promise 41: "the number of the latest FINDING (0 before any)"
    private static void theLatestFinding() {
        Desk d = new Desk();
        OneSelf x = d.x;
        d.row(0, "a");
        due.is("before any", x.count(8), 0);
        x.lose(0);
        due.is("NULL", x.count(8), 1);
        x.put(3, 2, 1, 0);
        due.is("INDEX", x.count(8), 2);
        x.put(3, 1, 0, 0);
        due.is("CAST", x.count(8), 3);
        x.sheet(0, 0, 1);
        x.copy(0, 0, 3, 0, 1);
        due.is("STORE", x.count(8), 4);
        x.sheet(0, 0, -1);
        due.is("SIZE", x.count(8), 5);
        x.put(0, 0, 0, 1);
        x.count(9);
        x.takeBack(0);
        x.takeBack(0);
        x.bound(0);
        due.is("it stays with what goes well, with BAD and with NOT", x.count(8), 5);
        x.row(0, 1, 0, 1, NONE, NONE, NONE);
        due.is("NULL of a row()", x.count(8), 1);
        x.row(0, 0, 1, 1, NONE, NONE, NONE);
        due.is("INDEX of a row()", x.count(8), 2);
        x.write(0, 1);
        due.is("NULL of a write()", x.count(8), 1);
    }

    // Terms 1: "they change nothing but count() 8"
    private static void findingsChangeNothingElse() {
        Desk d = new Desk();
        OneSelf x = d.x;
        d.row(0, "ab", 1800, 0, 0);
        d.row(1, "ab", 1800, 0, 0);
        fill(x, 0, 1, 3);
        fill(x, 1, 0, 2);
        long before = x.digest();
        int[] found = {
            x.lose(2), x.put(2, 0, 0, 5), x.put(0, 0, 0, 5), x.put(0, 1, 3, 5), x.sheet(0, 1, -1), x.sheet(2, 0, -1),
            x.copy(0, 0, 1, 0, 1), x.copy(0, 0, 0, 2, 2), x.copy(0, 0, 2, 0, 1), x.row(0, 2, 0, 1, NONE, NONE, NONE),
            x.row(0, 0, 3, 1, NONE, NONE, NONE), x.write(0, 2),
        };
        int[] want = {NULL, NULL, CAST, INDEX, SIZE, SIZE, STORE, INDEX, NULL, NULL, INDEX, NULL};
        for (int k = 0; k < want.length; k++) {
            due.is("FINDING " + k, found[k], want[k]);
        }
        due.is("the digest", x.digest(), before);
        items("a SHEET", x, 0, 1, 0, 1, 2);
        items("another", x, 1, 0, 10, 11);
        due.is("a LOST one", x.lose(2), NULL);
    }

    // Promise 42: "as longs that wrap"
    private static void digestThatWraps() {
        long h = 17;
        for (int k = 0; k < 20; k++) {
            h *= 31;
        }
        due.is("of a new object", new OneSelf().digest(), h);
        due.is("17 times 31 to the 20th, as a long", h, new java.math.BigInteger("31").pow(20).multiply(
                java.math.BigInteger.valueOf(17)).longValue());
        Desk d = new Desk();
        Naive naive = new Naive();
        naive.sheet(3, 2, 1);
        naive.put(3, 2, 0, 'a');
        for (int row = 0; row <= 35; row++) {
            d.row(row % 3, "a", 1999, 7, 1);
            naive.row(row % 3, 3, 0, 1, 1999, 7, 1);
        }
        due.is("of 36 ROWS", d.x.digest(), naive.digest());
    }

    // Promise 42: "laid() 0, 1 of REGISTERS 0 and 1 (-3: NOT)"
    private static void digestWithNot() {
        Desk d = new Desk();
        for (int row = 0; row <= 10; row++) {
            d.row(1, "a");
        }
        due.is("laid(0, 1, 0)", d.x.laid(0, 1, 0), NOT);
        d.x.line(400);
        long h = 17;
        int[] counts = {0, 11, 11, 0, 11, 0, 0, 0};
        for (int each : counts) {
            h = 31 * h + each;
        }
        for (int row = 0; row <= 10; row++) {
            int[] facts = {1, NONE, NONE, NONE, 1, 0, NONE, 1};
            for (int each : facts) {
                h = 31 * h + each;
            }
        }
        int[] rest = {0, 0, 11, 0, 1, 0, 0, 0, 0, 0, NOT, NOT};
        for (int each : rest) {
            h = 31 * h + each;
        }
        due.is("eleven ROWS of REGISTER 1", d.x.digest(), h);
    }

    // "An object is used for at most 512 calls after it has been made"
    private static void theLastOf512Calls() {
        OneSelf x = new OneSelf();
        x.sheet(0, 2, 1);
        for (int k = 1; k <= 510; k++) {
            x.put(0, 2, 0, k);
        }
        due.is("the 512th call", x.get(0, 2, 0), 510);
    }
}
