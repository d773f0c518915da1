/** Promises 1 to 8: a new object, days, rows, what is told of them, ways. */
public final class RowsTest {
    private static final int NONE = Desk.NONE, BAD = Desk.BAD, NOT = Desk.NOT, FULL = Desk.FULL;
    private static final Due due = new Due();

    public static void main(String[] args) {
        newObject();
        pass();
        row();
        rowRefused();
        rowFull();
        takeBack();
        about();
        letter();
        asOf();
        way();
        due.end();
    }

    // Promise 1
    private static void newObject() {
        OneSelf x = new OneSelf();
        for (int what = 0; what <= 8; what++) {
            due.is("new: count(" + what + ")", x.count(what), 0);
        }
        for (int s = 0; s < 4; s++) {
            due.is("new: lose(" + s + ")", x.lose(s), Desk.NULL);
        }
        due.is("new: about(0, 0)", x.about(0, 0), BAD);
        due.is("new: asOf(-1)", x.asOf(NONE), NONE);
        due.is("new: line(30)", x.line(30), 30);
        due.is("new: fault()", x.fault(), 0);
        due.is("new: links()", x.links(), 0);
        due.is("new: bundles(2)", x.bundles(2), 0);
        for (int field = 0; field < 4; field++) {
            int[] points = {20, 10, 0, -20};
            int[] one = {700, 200, 80, 20};
            for (int level = 0; level < 4; level++) {
                due.is("new: points of " + field + ", " + level, x.points(field, level, points[level]), points[level]);
                due.is("new: chance of one, " + field + ", " + level, x.chance(true, field, level, 1), one[level]);
                due.is("new: chance of not, " + field + ", " + level, x.chance(false, field, level, 1), one[3 - level]);
            }
        }
        for (int a = 0; a < 8; a++) {
            for (int b = 0; b < a; b++) {
                due.is("new: way(" + a + ", " + b + ")", x.way(a, b, 50), 50);
            }
        }
        OneSelf other = new OneSelf();
        x.pass(3);
        x.sheet(0, 0, 4);
        due.is("another object's day", other.count(0), 0);
        due.is("another object's sheet", other.lose(0), Desk.NULL);
    }

    // Promise 2
    private static void pass() {
        OneSelf x = new OneSelf();
        due.is("pass(0)", x.pass(0), BAD);
        due.is("pass(-1)", x.pass(-1), BAD);
        due.is("pass(101)", x.pass(101), BAD);
        due.is("pass(most)", x.pass(Integer.MAX_VALUE), BAD);
        due.is("pass(1)", x.pass(1), 1);
        due.is("pass(100)", x.pass(100), 101);
        due.is("pass(100) again", x.pass(100), 201);
        due.is("pass(100) once more", x.pass(100), 301);
        due.is("pass(99) beyond 399", x.pass(99), BAD);
        due.is("count(0) after a refusal", x.count(0), 301);
        due.is("pass(98) to 399", x.pass(98), 399);
        due.is("pass(1) at 399", x.pass(1), BAD);
        due.is("count(0) at the end", x.count(0), 399);
    }

    // Promise 3
    private static void row() {
        Desk d = new Desk();
        OneSelf x = d.x;
        d.lay(0, "xxannazz");
        due.is("row 0", x.row(0, 0, 2, 4, 1500, 0, 0), 0);
        due.is("row 1", x.row(2, 0, 6, 2, 1999, 7, 1), 1);
        due.is("row 2", x.row(1, 0, 0, 1, NONE, NONE, NONE), 2);
        due.isTrue("name of row 0", d.nameOf(0).equals("anna"));
        due.isTrue("name of row 1", d.nameOf(1).equals("zz"));
        due.isTrue("name of row 2", d.nameOf(2).equals("x"));
        d.lay(0, "qqqqqqqq");
        due.isTrue("a name stays when the sheet changes", d.nameOf(0).equals("anna"));
        for (int type = 0; type < 3; type++) {
            x.sheet(1, type, 1);
            x.put(1, type, 0, 'k');
            due.is("row of a sheet of type " + type, x.row(0, 1, 0, 1, NONE, NONE, NONE), 3 + type);
        }
        d.lay(2, "abcdefghij");
        due.is("ten letters", x.row(0, 2, 0, 10, NONE, NONE, NONE), 6);
        due.is("count(1)", x.count(1), 7);
        due.is("no finding", x.count(8), 0);
    }

    private static void rowRefused() {
        Desk d = new Desk();
        OneSelf x = d.x;
        d.lay(0, "abcdefghijkl");
        int[][] bad = {
            {-1, 0, 0, 1, NONE, NONE, NONE}, {3, 0, 0, 1, NONE, NONE, NONE},
            {0, -1, 0, 1, NONE, NONE, NONE}, {0, 4, 0, 1, NONE, NONE, NONE},
            {0, 0, -1, 1, NONE, NONE, NONE}, {0, 0, Integer.MIN_VALUE, 1, NONE, NONE, NONE},
            {0, 0, 0, 0, NONE, NONE, NONE}, {0, 0, 0, 11, NONE, NONE, NONE}, {0, 0, 0, -1, NONE, NONE, NONE},
            {0, 0, 0, 1, 1499, NONE, NONE}, {0, 0, 0, 1, 2000, NONE, NONE}, {0, 0, 0, 1, 0, NONE, NONE},
            {0, 0, 0, 1, -2, NONE, NONE}, {0, 0, 0, 1, NONE, 8, NONE}, {0, 0, 0, 1, NONE, -2, NONE},
            {0, 0, 0, 1, NONE, NONE, 2}, {0, 0, 0, 1, NONE, NONE, -2},
            // BAD comes ahead of NULL and INDEX
            {3, 1, 0, 1, NONE, NONE, NONE}, {0, 1, 0, 11, NONE, NONE, NONE}, {0, 0, 12, 1, 1499, NONE, NONE},
        };
        for (int[] c : bad) {
            due.is("row " + java.util.Arrays.toString(c), x.row(c[0], c[1], c[2], c[3], c[4], c[5], c[6]), BAD);
        }
        due.is("BAD is no finding", x.count(8), 0);
        due.is("row of a lost sheet", x.row(0, 1, 99, 1, NONE, NONE, NONE), Desk.NULL);
        due.is("count(8): NULL", x.count(8), 1);
        due.is("row one item too far", x.row(0, 0, 3, 10, NONE, NONE, NONE), Desk.INDEX);
        due.is("count(8): INDEX", x.count(8), 2);
        due.is("row behind the items", x.row(0, 0, 12, 1, NONE, NONE, NONE), Desk.INDEX);
        due.is("row far behind", x.row(0, 0, Integer.MAX_VALUE, 10, NONE, NONE, NONE), Desk.INDEX);
        int[] noLetters = {96, 123, 65, 48, 0, -97, 97 + 256};
        for (int v : noLetters) {
            x.put(0, 2, 2, v);
            due.is("row with item " + v, x.row(0, 0, 0, 3, NONE, NONE, NONE), NOT);
            due.is("row ahead of item " + v, x.row(0, 0, 0, 13, NONE, NONE, NONE), BAD);
            due.is("row too long with item " + v, x.row(0, 0, 2, 11, NONE, NONE, NONE), BAD);
            due.is("row beyond with item " + v, x.row(0, 0, 4, 9, NONE, NONE, NONE), Desk.INDEX);
        }
        due.is("no row came of it", x.count(1), 0);
        due.is("row beside the item", x.row(0, 0, 0, 2, NONE, NONE, NONE), 0);
        due.is("row behind the item", x.row(0, 0, 3, 9, NONE, NONE, NONE), 1);
        x.put(0, 2, 0, '1');
        due.is("the first is no letter", x.row(0, 0, 0, 2, NONE, NONE, NONE), NOT);
        x.put(0, 2, 0, 'a');
        x.put(0, 2, 1, '1');
        due.is("the last is no letter", x.row(0, 0, 0, 2, NONE, NONE, NONE), NOT);
        x.put(0, 2, 1, 'z');
        due.is("a and z are letters", x.row(0, 0, 0, 2, NONE, NONE, NONE), 2);
    }

    private static void rowFull() {
        Desk d = new Desk();
        d.lay(0, "ab1");
        for (int row = 0; row < 36; row++) {
            due.is("row " + row + " of 36", d.x.row(row % 3, 0, 0, 2, NONE, NONE, NONE), row);
        }
        due.is("count(2) of 36", d.x.count(2), 36);
        due.is("count(4) of 36", d.x.count(4), 12);
        due.is("row 36", d.x.row(0, 0, 0, 2, NONE, NONE, NONE), FULL);
        due.is("NOT is ahead of FULL", d.x.row(0, 0, 0, 3, NONE, NONE, NONE), NOT);
        due.is("INDEX is ahead of FULL", d.x.row(0, 0, 0, 4, NONE, NONE, NONE), Desk.INDEX);
        d.x.takeBack(0);
        due.is("a row taken back makes no room", d.x.row(0, 0, 0, 2, NONE, NONE, NONE), FULL);
        due.is("count(1) stays", d.x.count(1), 36);
        due.is("about(36, 0)", d.x.about(36, 0), BAD);
        due.is("about(35, 0)", d.x.about(35, 0), 2);
    }

    // Promise 4
    private static void takeBack() {
        Desk d = new Desk();
        due.is("takeBack without rows", d.x.takeBack(0), BAD);
        d.row(0, "a");
        d.row(0, "b");
        due.is("takeBack(-1)", d.x.takeBack(-1), BAD);
        due.is("takeBack(2)", d.x.takeBack(2), BAD);
        d.x.pass(5);
        due.is("takeBack(1)", d.x.takeBack(1), 1);
        d.x.pass(2);
        due.is("takeBack(1) again", d.x.takeBack(1), NOT);
        due.is("it stays the first day", d.x.about(1, 6), 5);
        due.is("row 0 is not taken back", d.x.about(0, 6), NONE);
        d.row(0, "c");
        d.x.asOf(0);
        due.is("takeBack of a row not known yet", d.x.takeBack(2), 1);
        due.is("it is on the day, not as of it", d.x.about(2, 6), 7);
    }

    // Promise 5
    private static void about() {
        Desk d = new Desk();
        d.x.pass(7);
        d.row(2, "anna", 1801, 5, 1);
        int[] want = {2, 1801, 5, 1, 4, 7, NONE, 1};
        for (int what = 0; what < 8; what++) {
            due.is("about(0, " + what + ")", d.x.about(0, what), want[what]);
        }
        d.row(0, "abcdefghij");
        int[] missing = {0, NONE, NONE, NONE, 10, 7, NONE, 1};
        for (int what = 0; what < 8; what++) {
            due.is("about(1, " + what + ")", d.x.about(1, what), missing[what]);
        }
        due.is("about(0, -1)", d.x.about(0, -1), BAD);
        due.is("about(0, 8)", d.x.about(0, 8), BAD);
        due.is("about(-1, 0)", d.x.about(-1, 0), BAD);
        due.is("about(2, 0)", d.x.about(2, 0), BAD);
        d.x.pass(1);
        d.x.takeBack(0);
        due.is("taken back", d.x.about(0, 6), 8);
        due.is("not known from that day on", d.x.about(0, 7), 0);
        d.x.asOf(7);
        due.is("known as of the day before", d.x.about(0, 7), 1);
        due.is("the day it is taken back is told all the same", d.x.about(0, 6), 8);
        d.x.asOf(6);
        due.is("not known before it was told", d.x.about(0, 7), 0);
        d.x.asOf(NONE);
        d.row(1, "b");
        d.x.takeBack(2);
        d.x.pass(3);
        d.x.asOf(8);
        due.is("told and taken back on one day", d.x.about(2, 7), 0);
    }

    // Promise 6
    private static void letter() {
        Desk d = new Desk();
        d.row(0, "bcdz");
        d.row(0, "abcdefghij");
        for (int i = 0; i < 4; i++) {
            due.is("letter(0, " + i + ")", d.x.letter(0, i), "bcdz".charAt(i));
        }
        due.is("letter(0, 4)", d.x.letter(0, 4), NONE);
        due.is("letter(0, most)", d.x.letter(0, Integer.MAX_VALUE), NONE);
        due.is("letter(1, 9)", d.x.letter(1, 9), 'j');
        due.is("letter(1, 10)", d.x.letter(1, 10), NONE);
        due.is("letter(0, -1)", d.x.letter(0, -1), BAD);
        due.is("letter(-1, 0)", d.x.letter(-1, 0), BAD);
        due.is("letter(2, 0)", d.x.letter(2, 0), BAD);
    }

    // Promise 7
    private static void asOf() {
        Desk d = new Desk();
        due.is("asOf(0)", d.x.asOf(0), NONE);
        due.is("asOf(1) ahead of the day", d.x.asOf(1), BAD);
        due.is("asOf(-2)", d.x.asOf(-2), BAD);
        due.is("asOf(0) after refusals", d.x.asOf(0), 0);
        d.x.pass(10);
        d.row(0, "a");
        due.is("as of 0 stays when days pass", d.x.count(2), 0);
        due.is("asOf(10)", d.x.asOf(10), 0);
        due.is("known as of 10", d.x.count(2), 1);
        due.is("asOf(9)", d.x.asOf(9), 10);
        due.is("not known as of 9", d.x.count(2), 0);
        due.is("asOf(11)", d.x.asOf(11), BAD);
        due.is("asOf(NONE)", d.x.asOf(NONE), 9);
        due.is("known as of the day", d.x.count(2), 1);
        d.x.pass(1);
        d.row(0, "b");
        due.is("NONE goes on with the day", d.x.count(2), 2);
        d.x.takeBack(0);
        due.is("taken back as of the day", d.x.count(2), 1);
        due.is("asOf(10) again", d.x.asOf(10), NONE);
        due.is("as of 10 it was known", d.x.about(0, 7), 1);
        due.is("as of 10 the other was not", d.x.about(1, 7), 0);
    }

    // Promise 8
    private static void way() {
        Desk d = new Desk();
        OneSelf x = d.x;
        due.is("way(0, 7, 0)", x.way(0, 7, 0), 50);
        due.is("way(7, 0, 99)", x.way(7, 0, 99), 0);
        due.is("way(0, 7, 5)", x.way(0, 7, 5), 99);
        due.is("way(0, 6, 1)", x.way(0, 6, 1), 50);
        due.is("way(1, 7, 1)", x.way(1, 7, 1), 50);
        int[][] bad = {{-1, 0, 1}, {8, 0, 1}, {0, -1, 1}, {0, 8, 1}, {3, 3, 0}, {0, 7, -1}, {0, 7, 100}};
        for (int[] c : bad) {
            due.is("way " + java.util.Arrays.toString(c), x.way(c[0], c[1], c[2]), BAD);
        }
        due.is("way(7, 0, 5) after refusals", x.way(7, 0, 5), 5);
    }
}
