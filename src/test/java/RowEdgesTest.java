/**
 * The edges that the document names of days, rows and ways: promises 1 to 8 and their terms.
 * Each method is one sentence, or the part of one that names an edge.
 */
public final class RowEdgesTest {
    private static final int NONE = Desk.NONE, BAD = Desk.BAD, NOT = Desk.NOT, FULL = Desk.FULL;
    private static final int LEAST = Integer.MIN_VALUE, MOST = Integer.MAX_VALUE;
    private static final Due due = new Due();

    public static void main(String[] args) {
        nothingAtFirst();
        oneToAHundredDays();
        noDayAbove399();
        theLastDayIsADay();
        registersOfARow();
        sheetOfARow();
        itemOfARow();
        lettersOfAName();
        yearOfARow();
        placeOfARow();
        sortOfARow();
        notSoManyItems();
        oneIsNoLetter();
        itemsThatWrapToLetters();
        thirtySixRows();
        rowRefusedInOrder();
        takenBackOnce();
        noSuchRowToTakeBack();
        whatIsToldOfARow();
        letterOfAName();
        asOfNoLaterThanTheDay();
        knownFromTheDayItWasTold();
        knownUpToTheDayBeforeItWasTakenBack();
        placesOfAWay();
        waysAreZeroTo99();
        due.end();
    }

    /** A row of one letter on SHEET 0, all else missing. */
    private static int tell(OneSelf x, int register, int year, int place, int sort) {
        return x.row(register, 0, 0, 1, year, place, sort);
    }

    private static Desk withLetters() {
        Desk d = new Desk();
        d.lay(0, "abcdefghijkl");
        return d;
    }

    // Promise 1: "DAY 0, no ROWS; all SHEETS are LOST."
    private static void nothingAtFirst() {
        OneSelf x = new OneSelf();
        due.is("the DAY at first", x.count(0), 0);
        due.is("ROWS at first", x.count(1), 0);
        due.is("row 0 at first", x.about(0, 0), BAD);
        for (int s = 0; s <= 3; s++) {
            due.is("SHEET " + s + " at first", new OneSelf().lose(s), Desk.NULL);
        }
    }

    // Promise 2: "n DAYS (1 to 100) go by"
    private static void oneToAHundredDays() {
        int[] tooFewOrMany = {LEAST, -100, -1, 0, 101, 399, MOST};
        for (int n : tooFewOrMany) {
            OneSelf x = new OneSelf();
            due.is("pass(" + n + ")", x.pass(n), BAD);
            due.is("the DAY after pass(" + n + ")", x.count(0), 0);
        }
        due.is("pass(1), the fewest", new OneSelf().pass(1), 1);
        due.is("pass(100), the most", new OneSelf().pass(100), 100);
    }

    private static Desk onDay(int day) {
        Desk d = new Desk();
        while (d.x.count(0) < day) {
            d.x.pass(Math.min(100, day - d.x.count(0)));
        }
        return d;
    }

    // Promise 2: "BAD: also above 399."
    private static void noDayAbove399() {
        OneSelf x = onDay(300).x;
        due.is("pass(100) on 300: 400", x.pass(100), BAD);
        due.is("the DAY stays 300", x.count(0), 300);
        due.is("pass(99) on 300: 399", x.pass(99), 399);
        due.is("pass(1) on 399: 400", x.pass(1), BAD);
        due.is("pass(most) on 399 does not wrap", x.pass(MOST), BAD);
        due.is("pass(least) on 399 does not wrap", x.pass(LEAST), BAD);
        due.is("the DAY stays 399", x.count(0), 399);
        due.is("pass(100) on 299", onDay(299).x.pass(100), 399);
    }

    // Terms 1: "DAYS 0 .. 399"
    private static void theLastDayIsADay() {
        Desk d = onDay(399);
        d.row(0, "a");
        due.is("told on 399", d.x.about(0, 5), 399);
        due.is("KNOWN on 399", d.x.about(0, 7), 1);
        due.is("asOf(399)", d.x.asOf(399), NONE);
        due.is("asOf(400)", d.x.asOf(400), BAD);
        due.is("takeBack(0) on 399", d.x.takeBack(0), 1);
        due.is("taken back on 399", d.x.about(0, 6), 399);
    }

    // Terms 1: "REGISTERS 0 .. 2"
    private static void registersOfARow() {
        OneSelf x = withLetters().x;
        int[] none = {LEAST, NONE, 3, 4, MOST};
        for (int register : none) {
            due.is("row of REGISTER " + register, tell(x, register, NONE, NONE, NONE), BAD);
        }
        for (int register = 0; register <= 2; register++) {
            due.is("row of REGISTER " + register, tell(x, register, NONE, NONE, NONE), register);
            due.is("its REGISTER", x.about(register, 0), register);
        }
    }

    // Terms 1: "SHEETS 0 .. 3", as a ROW names one
    private static void sheetOfARow() {
        for (int s = 0; s <= 3; s++) {
            Desk d = new Desk();
            due.is("row of SHEET " + s + ", LOST", d.x.row(0, s, 0, 1, NONE, NONE, NONE), Desk.NULL);
            d.lay(s, "k");
            due.is("row of SHEET " + s, d.x.row(0, s, 0, 1, NONE, NONE, NONE), 0);
            due.is("its letter", d.x.letter(0, 0), 'k');
        }
        int[] none = {LEAST, -1, 4, MOST};
        for (int s : none) {
            due.is("row of SHEET " + s, withLetters().x.row(0, s, 0, 1, NONE, NONE, NONE), BAD);
        }
    }

    // Promise 3: "BAD: also i below 0"
    private static void itemOfARow() {
        OneSelf x = withLetters().x;
        due.is("from item -1 on", x.row(0, 0, -1, 1, NONE, NONE, NONE), BAD);
        due.is("from item -1 on, with room for all", x.row(0, 0, -1, 2, NONE, NONE, NONE), BAD);
        due.is("from the least item on", x.row(0, 0, LEAST, 10, NONE, NONE, NONE), BAD);
        due.is("from item 0 on", x.row(0, 0, 0, 1, NONE, NONE, NONE), 0);
        due.is("from item 0 on: a", x.letter(0, 0), 'a');
        due.is("from the last item on", x.row(0, 0, 11, 1, NONE, NONE, NONE), 1);
        due.is("from the last item on: l", x.letter(1, 0), 'l');
    }

    // Promise 3: "n not 1 to 10"; terms 1: "a NAME (1 to 10 letters a to z)"
    private static void lettersOfAName() {
        OneSelf x = withLetters().x;
        int[] none = {LEAST, -1, 0, 11, 12, MOST};
        for (int n : none) {
            due.is("a NAME of " + n, x.row(0, 0, 0, n, NONE, NONE, NONE), BAD);
        }
        due.is("a NAME of 1", x.row(0, 0, 0, 1, NONE, NONE, NONE), 0);
        due.is("it has 1", x.about(0, 4), 1);
        due.is("a NAME of 10", x.row(0, 0, 2, 10, NONE, NONE, NONE), 1);
        due.is("it has 10", x.about(1, 4), 10);
        due.is("its last letter", x.letter(1, 9), 'l');
    }

    // Terms 1: "a YEAR (1500 to 1999, NONE: missing)"
    private static void yearOfARow() {
        OneSelf x = withLetters().x;
        int[] none = {LEAST, -1500, -2, 0, 1, 1499, 2000, MOST};
        for (int year : none) {
            due.is("the YEAR " + year, tell(x, 0, year, NONE, NONE), BAD);
        }
        int[] years = {1500, 1999, NONE};
        for (int k = 0; k < 3; k++) {
            due.is("the YEAR " + years[k], tell(x, 0, years[k], NONE, NONE), k);
            due.is("it is told", x.about(k, 1), years[k]);
        }
    }

    // Terms 1: "a PLACE (0 to 7, NONE)"
    private static void placeOfARow() {
        OneSelf x = withLetters().x;
        int[] none = {LEAST, -2, 8, MOST};
        for (int place : none) {
            due.is("the PLACE " + place, tell(x, 0, NONE, place, NONE), BAD);
        }
        int[] places = {0, 7, NONE};
        for (int k = 0; k < 3; k++) {
            due.is("the PLACE " + places[k], tell(x, 0, NONE, places[k], NONE), k);
            due.is("it is told", x.about(k, 2), places[k]);
        }
    }

    // Terms 1: "a SORT (0, 1, NONE)"
    private static void sortOfARow() {
        OneSelf x = withLetters().x;
        int[] none = {LEAST, -2, 2, MOST};
        for (int sort : none) {
            due.is("the SORT " + sort, tell(x, 0, NONE, NONE, sort), BAD);
        }
        int[] sorts = {0, 1, NONE};
        for (int k = 0; k < 3; k++) {
            due.is("the SORT " + sorts[k], tell(x, 0, NONE, NONE, sorts[k]), k);
            due.is("it is told", x.about(k, 3), sorts[k]);
        }
    }

    // Promise 3: "INDEX: not so many items"
    private static void notSoManyItems() {
        OneSelf x = withLetters().x;
        due.is("the last 10 of 12", x.row(0, 0, 2, 10, NONE, NONE, NONE), 0);
        due.is("one item too few", x.row(0, 0, 3, 10, NONE, NONE, NONE), Desk.INDEX);
        due.is("behind the last", x.row(0, 0, 12, 1, NONE, NONE, NONE), Desk.INDEX);
        due.is("far behind, where i and n wrap", x.row(0, 0, MOST, 1, NONE, NONE, NONE), Desk.INDEX);
        due.is("far behind, ten", x.row(0, 0, MOST - 8, 10, NONE, NONE, NONE), Desk.INDEX);
        due.is("count(8)", x.count(8), 2);
        x.sheet(1, 2, 0);
        due.is("an empty SHEET", x.row(0, 1, 0, 1, NONE, NONE, NONE), Desk.INDEX);
        Desk forty = new Desk();
        forty.lay(0, "x".repeat(39) + "y");
        due.is("the last of 40", forty.x.row(0, 0, 39, 1, NONE, NONE, NONE), 0);
        due.is("y", forty.x.letter(0, 0), 'y');
        due.is("behind the last of 40", forty.x.row(0, 0, 40, 1, NONE, NONE, NONE), Desk.INDEX);
        due.is("one more than 40", forty.x.row(0, 0, 31, 10, NONE, NONE, NONE), Desk.INDEX);
        due.is("the last ten of 40", forty.x.row(0, 0, 30, 10, NONE, NONE, NONE), 1);
    }

    // Promise 3: "NOT: one is no letter"; terms 6: "items are letters (97 to 122)"
    private static void oneIsNoLetter() {
        int[] none = {96, 123, 0, 64, 65, 90, 91, 48, -97, 97 + 256, 97 - 256, LEAST, MOST};
        for (int v : none) {
            for (int at = 0; at < 3; at++) {
                OneSelf x = withLetters().x;
                x.put(0, 2, at, v);
                due.is("item " + at + " of 3 is " + v, x.row(0, 0, 0, 3, NONE, NONE, NONE), NOT);
                due.is("no ROW comes of it", x.count(1), 0);
                due.is("NOT is no FINDING", x.count(8), 0);
            }
        }
        OneSelf x = withLetters().x;
        x.put(0, 2, 0, 97);
        x.put(0, 2, 1, 122);
        due.is("97 and 122", x.row(0, 0, 0, 2, NONE, NONE, NONE), 0);
        x.put(0, 2, 2, 96);
        due.is("what is behind the NAME is not asked", x.row(0, 0, 0, 2, NONE, NONE, NONE), 1);
        due.is("nor what is before it", x.row(0, 0, 3, 2, NONE, NONE, NONE), 2);
    }

    // Terms 6, with promise 37: an item has the lowest bits alone
    private static void itemsThatWrapToLetters() {
        int[] values = {97 + 256, 97 + 65536, 97 - 256, 97 - 65536};
        for (int v : values) {
            boolean byShort = (short) v == 97;
            for (int type = 0; type <= 2; type++) {
                OneSelf x = new OneSelf();
                x.sheet(0, type, 1);
                x.put(0, type, 0, v);
                int want = type == 0 || type == 1 && byShort ? 0 : NOT;
                due.is("a letter of " + v + " by TYPE " + type, x.row(0, 0, 0, 1, NONE, NONE, NONE), want);
            }
        }
    }

    // Terms 1: "ROWS 0 .. 35 (36 at most)"; promise 3: "FULL"
    private static void thirtySixRows() {
        Desk d = withLetters();
        for (int row = 0; row <= 35; row++) {
            due.is("row number " + row, tell(d.x, row % 3, 1999, 7, 1), row);
        }
        due.is("one more", tell(d.x, 0, NONE, NONE, NONE), FULL);
        due.is("FULL is no FINDING", d.x.count(8), 0);
        due.is("ROWS", d.x.count(1), 36);
        due.is("the last", d.x.about(35, 1), 1999);
        due.is("there is no ROW 36", d.x.about(36, 1), BAD);
        d.x.takeBack(35);
        due.is("FULL also with one taken back", tell(d.x, 0, NONE, NONE, NONE), FULL);
    }

    // "Refusals, the first that fits, in the order told at each act"
    private static void rowRefusedInOrder() {
        Desk d = withLetters();
        for (int row = 0; row <= 35; row++) {
            tell(d.x, 0, NONE, NONE, NONE);
        }
        d.x.put(0, 2, 11, '!');
        due.is("BAD, NULL, FULL", d.x.row(0, 1, 0, 0, NONE, NONE, NONE), BAD);
        due.is("BAD, INDEX, NOT, FULL", d.x.row(3, 0, 11, 10, NONE, NONE, NONE), BAD);
        due.is("BAD at the last number", d.x.row(0, 1, 11, 10, NONE, NONE, 2), BAD);
        due.is("BAD at all", d.x.row(3, 4, -1, 11, 0, 8, 2), BAD);
        due.is("BAD is no FINDING", d.x.count(8), 0);
        due.is("NULL, FULL", d.x.row(0, 1, 11, 10, NONE, NONE, NONE), Desk.NULL);
        due.is("INDEX, NOT, FULL", d.x.row(0, 0, 11, 10, NONE, NONE, NONE), Desk.INDEX);
        due.is("NOT, FULL", d.x.row(0, 0, 2, 10, NONE, NONE, NONE), NOT);
        due.is("FULL", d.x.row(0, 0, 1, 10, NONE, NONE, NONE), FULL);
    }

    // Promise 4: "NOT: it is already."
    private static void takenBackOnce() {
        Desk d = new Desk();
        d.row(0, "a");
        due.is("on the DAY it was told", d.x.takeBack(0), 1);
        due.is("already", d.x.takeBack(0), NOT);
        due.is("no longer KNOWN", d.x.about(0, 7), 0);
        d.x.pass(1);
        due.is("already, a DAY later", d.x.takeBack(0), NOT);
        due.is("the first DAY stays", d.x.about(0, 6), 0);
        d.row(0, "b");
        d.x.pass(1);
        d.x.takeBack(1);
        d.x.asOf(1);
        due.is("already, though KNOWN as of the DAY before", d.x.takeBack(1), NOT);
        due.is("KNOWN as of the DAY before", d.x.about(1, 7), 1);
    }

    // Promise 4: "BAD"
    private static void noSuchRowToTakeBack() {
        Desk d = new Desk();
        due.is("takeBack(0) without ROWS", d.x.takeBack(0), BAD);
        d.row(0, "a");
        int[] none = {LEAST, -1, 1, 35, 36, MOST};
        for (int row : none) {
            due.is("takeBack(" + row + ")", d.x.takeBack(row), BAD);
        }
        due.is("takeBack(0), the only one", d.x.takeBack(0), 1);
    }

    // Promise 5: 0 to 7, "BAD."
    private static void whatIsToldOfARow() {
        Desk d = new Desk();
        for (int row = 0; row <= 35; row++) {
            d.row(row % 3, "a");
        }
        int[] none = {LEAST, -1, 36, MOST};
        for (int row : none) {
            due.is("about(" + row + ", 0)", d.x.about(row, 0), BAD);
        }
        int[] nothing = {LEAST, -1, 8, MOST};
        for (int what : nothing) {
            due.is("about(35, " + what + ")", d.x.about(35, what), BAD);
        }
        due.is("about(35, 0)", d.x.about(35, 0), 2);
        due.is("about(35, 7)", d.x.about(35, 7), 1);
        due.is("about(35, 6), not taken back", d.x.about(35, 6), NONE);
    }

    // Promise 6: "NONE: it is not so long. BAD: also i below 0."
    private static void letterOfAName() {
        Desk d = new Desk();
        d.row(0, "q");
        d.row(0, "abcdefghij");
        due.is("letter 0 of one", d.x.letter(0, 0), 'q');
        due.is("letter 1 of one", d.x.letter(0, 1), NONE);
        due.is("letter 9 of ten", d.x.letter(1, 9), 'j');
        due.is("letter 10 of ten", d.x.letter(1, 10), NONE);
        due.is("the most", d.x.letter(0, MOST), NONE);
        due.is("letter -1", d.x.letter(1, -1), BAD);
        due.is("the least", d.x.letter(1, LEAST), BAD);
        int[] none = {LEAST, -1, 2, MOST};
        for (int row : none) {
            due.is("letter of ROW " + row, d.x.letter(row, 0), BAD);
            due.is("letter 10 of ROW " + row, d.x.letter(row, 10), BAD);
        }
    }

    // Terms 1: "AS OF a DAY (told, not behind the DAY; NONE, at first: the DAY)"
    private static void asOfNoLaterThanTheDay() {
        OneSelf x = new OneSelf();
        due.is("asOf(1) on 0", x.asOf(1), BAD);
        due.is("asOf(0) on 0, NONE at first", x.asOf(0), NONE);
        x.pass(5);
        int[] none = {LEAST, -2, 6, 399, 400, MOST};
        for (int day : none) {
            due.is("asOf(" + day + ") on 5", x.asOf(day), BAD);
        }
        due.is("asOf(5) on 5", x.asOf(5), 0);
        due.is("asOf(0) on 5", x.asOf(0), 5);
        due.is("asOf(NONE) on 5", x.asOf(NONE), 0);
        due.is("asOf(NONE) again", x.asOf(NONE), NONE);
    }

    // Terms 1: "KNOWN, if it was told up to it"
    private static void knownFromTheDayItWasTold() {
        Desk d = onDay(3);
        d.row(1, "a");
        d.x.pass(2);
        int[] want = {0, 0, 0, 1, 1, 1};
        for (int day = 0; day <= 5; day++) {
            d.x.asOf(day);
            due.is("told on 3, as of " + day, d.x.about(0, 7), want[day]);
            due.is("KNOWN ones as of " + day, d.x.count(2), want[day]);
        }
    }

    // Terms 1: "and not taken back up to it"
    private static void knownUpToTheDayBeforeItWasTakenBack() {
        Desk d = onDay(1);
        d.row(1, "a");
        d.x.pass(3);
        d.x.takeBack(0);
        d.x.pass(1);
        int[] want = {0, 1, 1, 1, 0, 0};
        for (int day = 0; day <= 5; day++) {
            d.x.asOf(day);
            due.is("told on 1, taken back on 4, as of " + day, d.x.about(0, 7), want[day]);
        }
        d.x.asOf(NONE);
        due.is("as of the DAY", d.x.about(0, 7), 0);
    }

    // Promise 8: "BAD: also one to itself"; terms 1: a PLACE is 0 to 7
    private static void placesOfAWay() {
        OneSelf x = new OneSelf();
        int[] none = {LEAST, -1, 8, MOST};
        for (int place : none) {
            due.is("way(" + place + ", 0, 1)", x.way(place, 0, 1), BAD);
            due.is("way(0, " + place + ", 1)", x.way(0, place, 1), BAD);
            due.is("way(" + place + ", " + place + ", 0)", x.way(place, place, 0), BAD);
        }
        for (int place = 0; place <= 7; place++) {
            due.is("way of " + place + " to itself", x.way(place, place, 0), BAD);
        }
        due.is("way(0, 7, 1) is untouched", x.way(0, 7, 1), 50);
        due.is("way(7, 0, 2), the same both ways", x.way(7, 0, 2), 1);
        due.is("way(0, 7, 3)", x.way(0, 7, 3), 2);
    }

    // Terms 1: "WAYS .. (0 to 99, ..; 50 at first)"
    private static void waysAreZeroTo99() {
        OneSelf x = new OneSelf();
        int[] none = {LEAST, -1, 100, MOST};
        for (int w : none) {
            due.is("way(6, 7, " + w + ")", x.way(6, 7, w), BAD);
        }
        due.is("50 at first", x.way(6, 7, 0), 50);
        due.is("0 it was", x.way(6, 7, 99), 0);
        due.is("99 it was", x.way(6, 7, 50), 99);
    }
}
