import java.util.ArrayList;
import java.util.List;

/** States from which calls are tried: each is a list of calls on a new object. */
final class Scenes {
    static final String[] NAMES = {"a new object", "a few rows", "ten by ten", "all that is full"};

    static List<Object[]> calls(int scene) {
        List<Object[]> calls = new ArrayList<>();
        switch (scene) {
            case 1: fewRows(calls); break;
            case 2: tenByTen(calls); break;
            case 3: full(calls); break;
            default: break;
        }
        return calls;
    }

    static void play(int scene, Object target) {
        for (Object[] call : calls(scene)) {
            Calls.answer(target, call);
        }
    }

    private static void add(List<Object[]> calls, Object... call) {
        calls.add(call);
    }

    private static void text(List<Object[]> calls, String text) {
        for (char c : text.toCharArray()) {
            add(calls, "type", (int) c);
        }
    }

    private static void letters(List<Object[]> calls, int s, int type, String letters) {
        add(calls, "sheet", s, type, letters.length());
        for (int i = 0; i < letters.length(); i++) {
            add(calls, "put", s, type, i, (int) letters.charAt(i));
        }
    }

    /** Some taken back, some told later; SHEETS of each TYPE, one of them empty, one LOST. */
    private static void fewRows(List<Object[]> calls) {
        letters(calls, 0, 0, "annabelmai!er");
        letters(calls, 1, 1, "otto");
        add(calls, "row", 0, 0, 0, 4, 1800, 1, 0);
        add(calls, "row", 1, 0, 0, 3, 1801, 1, 0);
        add(calls, "row", 1, 1, 0, 4, -1, 2, 1);
        add(calls, "row", 2, 0, 0, 7, 1804, -1, 0);
        add(calls, "pass", 3);
        add(calls, "row", 0, 1, 1, 3, 1805, 2, -1);
        add(calls, "row", 2, 0, 7, 3, 1999, 7, 1);
        add(calls, "takeBack", 2);
        add(calls, "pass", 2);
        text(calls, "ae=0;nm=1");
        add(calls, "check", 0, 1, true);
        add(calls, "check", 3, 1, false);
        add(calls, "check", 2, 4, true);
        add(calls, "way", 1, 2, 5);
        add(calls, "sheet", 2, 2, 0);
        add(calls, "line", 10);
    }

    /** Two REGISTERS of ten ROWS that are all linked, and one ROW of the third. */
    private static void tenByTen(List<Object[]> calls) {
        letters(calls, 0, 2, "abcdefghijkl");
        letters(calls, 2, 2, "xyz");
        for (int k = 0; k < 20; k++) {
            add(calls, "row", k % 2, 0, k % 3, 10, 1990 + k % 10, k % 8, k % 2);
        }
        add(calls, "row", 2, 2, 0, 1, -1, -1, -1);
        add(calls, "line", -80);
        add(calls, "pass", 100);
        add(calls, "asOf", 50);
    }

    /** 36 ROWS in one BUNDLE, 80 bytes, 40 CHECKED pairs, the last DAY, SHEETS of 40 items. */
    private static void full(List<Object[]> calls) {
        for (int s = 0; s < 4; s++) {
            add(calls, "sheet", s, s % 3, 40);
        }
        for (int i = 0; i < 12; i++) {
            add(calls, "put", 0, 0, i, 'a' + i);
            add(calls, "put", 2, 2, 28 + i, 'z' - i);
        }
        for (int k = 0; k < 3; k++) {
            add(calls, "pass", 100);
        }
        add(calls, "pass", 99);
        for (int row = 0; row < 36; row++) {
            add(calls, "row", row % 3, row % 2 == 0 ? 0 : 2, row % 2 == 0 ? 0 : 28, 1 + row % 10, 1500 + row, row % 8, row % 2);
        }
        StringBuilder text = new StringBuilder("bc=0");
        for (char c = 'd'; text.length() < 80; c++) {
            text.append(';').append(c).append("=1");
        }
        text(calls, text.toString());
        for (int k = 0; k < 40; k++) {
            add(calls, "check", k % 36, (k + 1 + k / 36) % 36, k % 2 == 0);
        }
        add(calls, "line", -400);
    }
}
