/** An object under test, with short ways to tell it rows and texts. */
final class Desk {
    static final int NULL = -11, INDEX = -12, CAST = -13, STORE = -14, SIZE = -15;
    static final int NONE = OneSelf.NONE, BAD = OneSelf.BAD, NOT = OneSelf.NOT, FULL = OneSelf.FULL;

    final OneSelf x = new OneSelf();

    /** The name is laid on SHEET 3. */
    int row(int register, String name, int year, int place, int sort) {
        lay(3, name);
        return x.row(register, 3, 0, name.length(), year, place, sort);
    }

    int row(int register, String name) {
        return row(register, name, NONE, NONE, NONE);
    }

    void lay(int s, String text) {
        x.sheet(s, 2, text.length());
        for (int i = 0; i < text.length(); i++) {
            x.put(s, 2, i, text.charAt(i));
        }
    }

    /** The text in place of the one before. */
    void sounds(String text) {
        x.wipe();
        for (int i = 0; i < text.length(); i++) {
            x.type(text.charAt(i));
        }
    }

    int faultOf(String text) {
        sounds(text);
        return x.fault();
    }

    String soundOf(int row) {
        StringBuilder sound = new StringBuilder();
        for (int i = 0; x.sound(row, i) != NONE; i++) {
            sound.append((char) x.sound(row, i));
        }
        return sound.toString();
    }

    String nameOf(int row) {
        StringBuilder name = new StringBuilder();
        for (int i = 0; x.letter(row, i) != NONE; i++) {
            name.append((char) x.letter(row, i));
        }
        return name.toString();
    }

    /** Groups of rows of like names: each group of n has n (n - 1) / 2 links, and there are no others. */
    static Desk groups(int... sizes) {
        Desk d = new Desk();
        d.x.line(20);
        char letter = 'a';
        for (int size : sizes) {
            for (int k = 0; k < size; k++) {
                d.row(k % 3, ("" + letter).repeat(5));
            }
            letter++;
        }
        return d;
    }

    /** So many links within groups are checked, the first of them as not one person. */
    void checkLinks(int n, int wrong) {
        int done = 0;
        for (int a = 0; a < x.count(1) && done < n; a++) {
            for (int b = a + 1; b < x.count(1) && done < n; b++) {
                if (x.slips(a, b) == 0) {
                    x.check(a, b, done >= wrong);
                    done++;
                }
            }
        }
    }

    /** Points so that only names count: 100 for one without slips, 60, 20 and -100 with more. */
    void namesAlone() {
        int[] points = {100, 60, 20, -100};
        for (int level = 0; level < 4; level++) {
            x.points(0, level, points[level]);
            for (int field = 1; field < 4; field++) {
                x.points(field, level, 0);
            }
        }
    }
}
