/** Promises 9 to 13: the text of sounds, its fault, the sounds of names, slips. */
public final class NamesTest {
    private static final int NONE = Desk.NONE, BAD = Desk.BAD, FULL = Desk.FULL;
    private static final Due due = new Due();

    public static void main(String[] args) {
        type();
        wipe();
        fault();
        sound();
        soundRefused();
        slips();
        due.end();
    }

    // Promise 9
    private static void type() {
        Desk d = new Desk();
        int[] bad = {-1, 256, Integer.MAX_VALUE, Integer.MIN_VALUE};
        for (int b : bad) {
            due.is("type(" + b + ")", d.x.type(b), BAD);
        }
        due.is("count(7)", d.x.count(7), 0);
        for (int n = 1; n <= 80; n++) {
            due.is("type number " + n, d.x.type(n % 2 == 0 ? 0 : 255), n);
        }
        due.is("type number 81", d.x.type(97), FULL);
        due.is("BAD is ahead of FULL", d.x.type(256), BAD);
        due.is("count(7) when full", d.x.count(7), 80);
    }

    // Promise 10
    private static void wipe() {
        Desk d = new Desk();
        due.is("wipe() of nothing", d.x.wipe(), 0);
        d.row(0, "abba");
        d.sounds("a=1;b=2");
        due.isTrue("sounds by the text", d.soundOf(0).equals("a21"));
        due.is("wipe()", d.x.wipe(), 7);
        due.is("count(7)", d.x.count(7), 0);
        due.is("fault()", d.x.fault(), 0);
        due.isTrue("own signs again", d.soundOf(0).equals("aba"));
        due.is("type goes on from nothing", d.x.type('c'), 1);
        due.is("wipe() of one", d.x.wipe(), 1);
    }

    // Promise 11
    private static void fault() {
        Desk d = new Desk();
        due.is("fault() of nothing", d.x.fault(), 0);
        Object[][] texts = {
            {"a=1", NONE}, {"a=0", NONE}, {"z=9", NONE}, {"ab=1;cd=1", NONE}, {"a=1;b=1;c=1", NONE},
            {"abcdefghijklmnopqrstuvwxyz=5", NONE},
            {"a", 1}, {"abc", 3}, {"a=", 2}, {"a=1;", 4}, {"a=1;b", 5}, {"a=1;b=", 6}, {"a=1;b=2;", 8},
            {"=1", 0}, {"1", 0}, {";", 0}, {"A=1", 0}, {"{=1", 0}, {"`=1", 0}, {" a=1", 0},
            {"a1", 1}, {"a;", 1}, {"aB=1", 1}, {"a==1", 2}, {"a=a", 2}, {"a=;", 2}, {"a=/", 2}, {"a=:", 2},
            {"a=12", 3}, {"a=1b=2", 3}, {"a=1=", 3}, {"a=1 ", 3},
            {"a=1;;", 4}, {"a=1;=2", 4}, {"a=1;2", 4}, {"a=1;b;", 5},
            {"aa=1", 1}, {"a=1;a=1", 4}, {"ab=1;cb=2", 6}, {"ab=1;ca", 6}, {"aa!", 1}, {"a=1;b=2;cb", 9},
            {"ab=!ca", 3}, {"a\0", 1}, {"\u00e1=1", 0}, {"a=1\u00ff", 3},
        };
        for (Object[] t : texts) {
            due.is("fault() of " + t[0], d.faultOf((String) t[0]), (Integer) t[1]);
        }
        StringBuilder longest = new StringBuilder();
        for (char c = 'a'; longest.length() < 80; c++) {
            longest.append(c).append("=1;");
        }
        due.is("fault() of 80 bytes that end with ;", d.faultOf(longest.toString()), 80);
        StringBuilder full = new StringBuilder("ab");
        for (char c = 'c'; full.length() < 80; c++) {
            full.append("=2;").append(c);
        }
        full.setLength(78);
        full.append("=0");
        due.is("fault() of 80 bytes that end well: " + full, d.faultOf(full.toString()), NONE);
        due.is("they are 80", d.x.type('a'), FULL);
        d.row(0, "zabczu");
        due.isTrue("sounds by 80 bytes", d.soundOf(0).equals("z2z"));
        due.is("wipe() of 80", d.x.wipe(), 80);
        longest.setLength(79);
        due.is("fault() of 79 bytes that end well", d.faultOf(longest.toString()), NONE);
    }

    // Promise 12
    private static void sound() {
        Desk d = new Desk();
        String[] names = {"meier", "mayer", "aabbccddee", "abacada", "a", "eee", "abcde", "bacad"};
        for (String name : names) {
            d.row(0, name);
        }
        // {text, then the sounds of the names}
        String[][] sounds = {
            {"", "meier", "mayer", "abcde", "abacada", "a", "e", "abcde", "bacad"},
            {"eia=0;y=0;td=3", "mr", "mr", "abc3", "abc3", "a", "e", "abc3", "bc3"},
            {"a=1", "meier", "m1yer", "a1bcde", "ab1c1d1", "a", "e", "abcde", "b1c1d"},
            {"a=1;b=1;c=1;d=1;e=1", "m1i1r", "m1y1r", "a1", "a1", "a", "e1", "a1", "b1"},
            {"abcde=0", "mir", "myr", "a", "a", "a", "e", "a", "b"},
            {"b=0;c=0;d=0", "meier", "mayer", "ae", "a", "a", "e", "ae", "ba"},
            {"a=9;bd=8;c=8;e=9", "m9i9r", "m9y9r", "a989", "a898989", "a", "e9", "a89", "b9898"},
            {"a=1;", "meier", "mayer", "abcde", "abacada", "a", "e", "abcde", "bacad"},
            {"a=1;ba=2", "meier", "mayer", "abcde", "abacada", "a", "e", "abcde", "bacad"},
            {"abc=0;d=", "meier", "mayer", "abcde", "abacada", "a", "e", "abcde", "bacad"},
        };
        for (String[] s : sounds) {
            d.sounds(s[0]);
            for (int row = 0; row < names.length; row++) {
                due.isTrue("sound of " + names[row] + " by " + s[0] + ": " + d.soundOf(row), d.soundOf(row).equals(s[row + 1]));
            }
        }
        d.sounds("b=2");
        d.row(1, "abc");
        due.isTrue("a row told behind the text", d.soundOf(8).equals("a2c"));
        due.is("a figure is its sign", d.x.sound(8, 1), 50);
        due.is("behind the last sign", d.x.sound(8, 3), NONE);
        d.x.type(';');
        due.is("a byte more makes a fault", d.x.sound(8, 1), 'b');
        d.x.wipe();
        d.row(0, "abcdefghij");
        due.is("the tenth sign", d.x.sound(9, 9), 'j');
        due.is("the eleventh", d.x.sound(9, 10), NONE);
    }

    private static void soundRefused() {
        Desk d = new Desk();
        due.is("sound without rows", d.x.sound(0, 0), BAD);
        d.row(0, "ab");
        due.is("sound(-1, 0)", d.x.sound(-1, 0), BAD);
        due.is("sound(1, 0)", d.x.sound(1, 0), BAD);
        due.is("sound(0, -1)", d.x.sound(0, -1), BAD);
        due.is("sound(0, most)", d.x.sound(0, Integer.MAX_VALUE), NONE);
        d.x.takeBack(0);
        due.is("of a row taken back", d.x.sound(0, 1), 'b');
    }

    // Promise 13
    private static void slips() {
        Object[][] pairs = {
            {"anna", "anna", 0}, {"anna", "ann", 1}, {"ann", "anna", 1}, {"anna", "aanna", 1}, {"anna", "inna", 1},
            {"anna", "nana", 1}, {"ab", "ba", 1}, {"abcd", "badc", 2}, {"abc", "cab", 2}, {"abc", "bca", 2},
            // two neighbours put one for the other, and nothing else is done between them
            {"ca", "abc", 3}, {"ab", "bca", 3}, {"abcd", "acbd", 1}, {"abc", "cba", 2}, {"abcd", "dcba", 3},
            {"a", "b", 1}, {"a", "abcdefghij", 9}, {"abcdefghij", "klmnopqrst", 10}, {"abcdefghij", "bcdefghija", 2},
            {"kitten", "sitting", 3}, {"meier", "mayer", 2}, {"smith", "schmidt", 4}, {"abab", "baba", 2},
            {"aabb", "bbaa", 3}, {"abcdefghij", "badcfehgji", 5}, {"aa", "aaa", 1}, {"ba", "aba", 1},
        };
        for (Object[] p : pairs) {
            Desk d = new Desk();
            d.row(0, (String) p[0]);
            d.row(0, (String) p[1]);
            due.is("slips of " + p[0] + ", " + p[1], d.x.slips(0, 1), (Integer) p[2]);
            due.is("slips of " + p[1] + ", " + p[0], d.x.slips(1, 0), (Integer) p[2]);
            due.is("slips of " + p[0] + " with itself", d.x.slips(0, 0), 0);
            d.x.takeBack(1);
            due.is("slips of a row taken back", d.x.slips(0, 1), (Integer) p[2]);
        }
        for (Object[] p : pairs) {
            Desk d = new Desk();
            d.row(0, "qqqqqqqqqq");
            d.row(0, (String) p[1]);
            d.row(0, (String) p[0]);
            due.is("slips of " + p[1] + ", " + p[0] + ", told in that order", d.x.slips(1, 2), (Integer) p[2]);
        }
        Desk neighbours = new Desk();
        neighbours.row(0, "xy");
        neighbours.row(0, "qqqqqqqqqy");
        neighbours.row(0, "x");
        due.is("the letters of another row do not count", neighbours.x.slips(0, 2), 1);
        due.is("the letters of another row do not count, back", neighbours.x.slips(2, 0), 1);
        Desk d = new Desk();
        due.is("slips without rows", d.x.slips(0, 0), BAD);
        d.row(0, "a");
        due.is("slips(0, 1)", d.x.slips(0, 1), BAD);
        due.is("slips(1, 0)", d.x.slips(1, 0), BAD);
        due.is("slips(-1, 0)", d.x.slips(-1, 0), BAD);
        due.is("slips(0, -1)", d.x.slips(0, -1), BAD);
    }
}
