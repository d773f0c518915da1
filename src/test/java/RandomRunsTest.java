/**
 * Many runs of 512 calls, each answered by the class and by Naive, which must agree at every call.
 * The numbers come from a fixed start, so each run is the same every time.
 */
public final class RandomRunsTest {
    private static final int RUNS = 500, CALLS = 512;

    private final OneSelf x = new OneSelf();
    private final Naive y = new Naive();
    private final int run;
    private final boolean wild;
    private final int letters;
    private final int yearsApart;
    private final int placesUsed;
    private final int registerZeroIn10;
    private long state;
    private int wrong = 0;
    private int rows = 0;
    private int step = 0;

    private RandomRunsTest(int run) {
        this.run = run;
        state = run * 7919L + 12345;
        wild = run % 5 == 4;
        letters = 1 + next(4);
        yearsApart = 1 + next(12);
        placesUsed = 1 + next(8);
        registerZeroIn10 = next(8);
    }

    public static void main(String[] args) {
        int wrong = 0;
        for (int run = 1; run <= RUNS; run++) {
            RandomRunsTest test = new RandomRunsTest(run);
            test.go();
            wrong += test.wrong;
        }
        System.out.println(wrong == 0 ? RUNS + " runs of " + CALLS + " calls are as due" : wrong + " answers are not as due");
        if (wrong != 0) System.exit(1);
    }

    private int next(int n) {
        state = state * 6364136223846793005L + 1442695040888963407L;
        return (int) ((state >>> 33) % n);
    }

    private boolean oneIn(int n) {
        return next(n) == 0;
    }

    /** Mostly from least to most, now and then beside it. */
    private int near(int least, int most) {
        if (!oneIn(wild ? 6 : 40)) return least + next(most - least + 1);
        switch (next(6)) {
            case 0: return least - 1;
            case 1: return most + 1;
            case 2: return Integer.MAX_VALUE;
            case 3: return Integer.MIN_VALUE;
            case 4: return least;
            default: return most;
        }
    }

    private int aRow() {
        return near(0, Math.max(0, rows - 1));
    }

    private int aYear() {
        return oneIn(6) ? -1 : oneIn(20) ? near(1500, 1999) : 1795 + next(yearsApart);
    }

    private int aPlace() {
        return oneIn(6) ? -1 : oneIn(20) ? near(-1, 7) : next(placesUsed);
    }

    private int aSort() {
        return oneIn(3) ? -1 : near(-1, 1);
    }

    private int aRegister() {
        return next(10) < registerZeroIn10 ? 0 : near(0, 2);
    }

    private void due(String call, long got, long want) {
        step++;
        if (got != want) {
            wrong++;
            if (wrong < 5) System.out.println("run " + run + ", call " + step + ": " + call + " answered " + got + ", due is " + want);
        }
    }

    private void go() {
        int size = 20 + next(21);
        due("sheet", x.sheet(0, run % 3, size), y.sheet(0, run % 3, size));
        for (int i = 0; i < size; i++) {
            put(0, run % 3, i, 'a' + next(letters));
        }
        int firstRows = next(37);
        while (rows < firstRows && step < 200) {
            row();
            if (oneIn(8)) sayDays();
        }
        if (oneIn(2)) typeText();
        while (step < CALLS - 1) {
            oneCall();
        }
        due("digest()", x.digest(), y.digest());
    }

    private void put(int s, int type, int i, int v) {
        due("put(" + s + ", " + type + ", " + i + ", " + v + ")", x.put(s, type, i, v), y.put(s, type, i, v));
    }

    private void row() {
        int register = aRegister(), s = near(0, wild ? 3 : 0), i = near(0, 30), n = near(1, 10);
        int year = aYear(), place = aPlace(), sort = aSort();
        int answer = y.row(register, s, i, n, year, place, sort);
        due("row(" + register + ", " + s + ", " + i + ", " + n + ", " + year + ", " + place + ", " + sort + ")",
                x.row(register, s, i, n, year, place, sort), answer);
        if (answer >= 0) rows = answer + 1;
    }

    private void typeText() {
        due("wipe()", x.wipe(), y.wipe());
        StringBuilder text = new StringBuilder();
        for (int letter = 0; letter < 5; letter++) {
            if (oneIn(3)) continue;
            text.append((char) ('a' + letter));
            if (oneIn(2)) text.append('=').append((char) ('0' + next(3))).append(';');
        }
        text.append("z=1");
        for (char c : text.toString().toCharArray()) {
            type(c);
        }
        due("fault() of " + text, x.fault(), y.fault());
    }

    private void type(int b) {
        due("type(" + b + ")", x.type(b), y.type(b));
    }

    private void sayDays() {
        if (oneIn(2)) {
            int n = near(1, 9);
            due("pass(" + n + ")", x.pass(n), y.pass(n));
        }
        if (oneIn(2)) {
            int day = oneIn(3) ? -1 : near(-1, Math.max(0, y.count(0)));
            due("asOf(" + day + ")", x.asOf(day), y.asOf(day));
        }
    }

    private void oneCall() {
        switch (next(7)) {
            case 0: callOfRows(); break;
            case 1: callOfNames(); break;
            case 2: callOfPairs(); break;
            case 3: callOfLinks(); break;
            case 4: callOfBundles(); break;
            case 5: callOfChecks(); break;
            default: callOfSheets(); break;
        }
    }

    private void callOfRows() {
        int a = aRow(), i = near(0, 10), what = near(0, 7);
        switch (next(7)) {
            case 0: row(); break;
            case 1: sayDays(); break;
            case 2:
                if (oneIn(3)) due("takeBack(" + a + ")", x.takeBack(a), y.takeBack(a));
                break;
            case 3: due("about(" + a + ", " + what + ")", x.about(a, what), y.about(a, what)); break;
            case 4: due("letter(" + a + ", " + i + ")", x.letter(a, i), y.letter(a, i)); break;
            default:
                int p = near(0, 7), q = near(0, 7), w = oneIn(2) ? near(0, 99) : near(0, 25);
                due("way(" + p + ", " + q + ", " + w + ")", x.way(p, q, w), y.way(p, q, w));
                break;
        }
    }

    private void callOfNames() {
        int a = aRow(), b = aRow(), i = near(0, 10);
        switch (next(6)) {
            case 0: type(oneIn(4) ? near(0, 255) : "abcdez=0123;".charAt(next(12))); break;
            case 1: due("fault()", x.fault(), y.fault()); break;
            case 2:
                if (oneIn(6)) typeText();
                break;
            case 3: due("slips(" + a + ", " + b + ")", x.slips(a, b), y.slips(a, b)); break;
            default: due("sound(" + a + ", " + i + ")", x.sound(a, i), y.sound(a, i)); break;
        }
    }

    private void callOfPairs() {
        int a = aRow(), b = aRow(), field = near(0, 3), level = near(0, 3);
        switch (next(7)) {
            case 0: due("level(" + a + ", " + b + ", " + field + ")", x.level(a, b, field), y.level(a, b, field)); break;
            case 1:
                int p = near(-100, 100);
                due("points(" + field + ", " + level + ", " + p + ")", x.points(field, level, p), y.points(field, level, p));
                break;
            case 2: due("score(" + a + ", " + b + ")", x.score(a, b), y.score(a, b)); break;
            case 3:
                boolean one = oneIn(2);
                int c = near(1, 1000);
                due("chance(" + one + ", " + field + ", " + level + ", " + c + ")",
                        x.chance(one, field, level, c), y.chance(one, field, level, c));
                break;
            case 4:
                int m = near(1, 1000), q = near(oneIn(2) ? 1 : 2000, oneIn(2) ? 3000 : 100000);
                due("belief(" + a + ", " + b + ", " + m + ", " + q + ")", x.belief(a, b, m, q), y.belief(a, b, m, q));
                break;
            default:
                int what = near(0, 1);
                due("odds(" + a + ", " + b + ", " + what + ")", x.odds(a, b, what), y.odds(a, b, what));
                break;
        }
    }

    private void callOfLinks() {
        int a = near(0, 2), b = near(0, 2), what = near(0, 1), r = aRow();
        switch (next(5)) {
            case 0:
                int l = oneIn(8) ? near(-400, 400) : near(-30, 90);
                due("line(" + l + ")", x.line(l), y.line(l));
                break;
            case 1: due("links()", x.links(), y.links()); break;
            case 2: due("laid(" + a + ", " + b + ", " + what + ")", x.laid(a, b, what), y.laid(a, b, what)); break;
            default: due("mate(" + r + ", " + b + ")", x.mate(r, b), y.mate(r, b)); break;
        }
    }

    private void callOfBundles() {
        int a = aRow(), b = aRow(), what = near(0, 2);
        switch (next(5)) {
            case 0: due("bundle(" + a + ")", x.bundle(a), y.bundle(a)); break;
            case 1: due("bundles(" + what + ")", x.bundles(what), y.bundles(what)); break;
            case 2: due("torn(" + a + ")", x.torn(a), y.torn(a)); break;
            default: due("cut(" + a + ", " + b + ")", x.cut(a, b), y.cut(a, b)); break;
        }
    }

    private void callOfChecks() {
        int a = aRow(), b = aRow(), what = near(0, 3), end = near(0, 1), field = near(0, 3), level = near(0, 3);
        int set = near(0, 63);
        boolean one = oneIn(2);
        switch (next(9)) {
            case 0: case 1: case 2: due("check(" + a + ", " + b + ", " + one + ")", x.check(a, b, one), y.check(a, b, one)); break;
            case 3: due("checked(" + what + ")", x.checked(what), y.checked(what)); break;
            case 4: due("bound(" + end + ")", x.bound(end), y.bound(end)); break;
            case 5:
                due("learnt(" + one + ", " + field + ", " + level + ")", x.learnt(one, field, level), y.learnt(one, field, level));
                break;
            case 6: due("meet(" + a + ", " + b + ", " + set + ")", x.meet(a, b, set), y.meet(a, b, set)); break;
            case 7: due("pairs(" + set + ")", x.pairs(set), y.pairs(set)); break;
            default:
                if (oneIn(3)) due("keys()", x.keys(), y.keys());
                break;
        }
    }

    private void callOfSheets() {
        int least = wild ? 0 : 1;
        int s = near(least, 3), t = near(least, 3), type = near(0, 2), i = near(0, 12), j = near(0, 12), n = near(0, 12);
        switch (next(9)) {
            case 0: due("sheet(" + s + ", " + type + ", " + n + ")", x.sheet(s, type, n), y.sheet(s, type, n)); break;
            case 1:
                if (oneIn(4)) due("lose(" + s + ")", x.lose(s), y.lose(s));
                break;
            case 2: put(s, type, i, oneIn(2) ? near(90, 130) : next(Integer.MAX_VALUE) * (oneIn(2) ? 1 : -1)); break;
            case 3: due("get(" + s + ", " + type + ", " + i + ")", x.get(s, type, i), y.get(s, type, i)); break;
            case 4: case 5:
                due("copy(" + s + ", " + i + ", " + t + ", " + j + ", " + n + ")", x.copy(s, i, t, j, n), y.copy(s, i, t, j, n));
                break;
            case 6:
                int row = aRow();
                due("write(" + row + ", " + s + ")", x.write(row, s), y.write(row, s));
                break;
            case 7:
                int what = near(0, 8);
                due("count(" + what + ")", x.count(what), y.count(what));
                break;
            default:
                due("count(8)", x.count(8), y.count(8));
                if (oneIn(20)) due("digest()", x.digest(), y.digest());
                break;
        }
    }
}
