import java.util.Arrays;

/**
 * Rows of several registers held against one another: which of them are one and the same person.
 *
 * Every array is made with the object and used again, because all calls of a run share one room.
 * The public methods test all numbers in the order in which the document tells the refusals; the
 * classes inside rely on that and loop over known bounds alone.
 */
public final class OneSelf {
    public static final int NONE = -1, BAD = -2, NOT = -3, FULL = -4;

    private static final int NULL = 1, INDEX = 2, CAST = 3, STORE = 4, SIZE = 5;

    private static final int LAST_DAY = 399, MOST_DAYS = 100;
    private static final int REGISTERS = 3, ROWS = 36, LETTERS = 10, PLACES = 8, SORTS = 2;
    private static final int FIRST_YEAR = 1500, LAST_YEAR = 1999;
    private static final int FIELDS = 4, LEVELS = 4;
    private static final int MOST_POINTS = 100, MOST_CHANCE = 1000, MOST_LINE = 400, MOST_WAY = 99;
    private static final int MOST_AHEAD = 1000, MOST_PAIRS_AHEAD = 100000;
    private static final int CHECKS = 40, BOUND_LINKS = 60, CUT_ROWS = 12, LAID_ROWS = 10;
    private static final int ALL_KEYS = 63;

    // -2 can be a score, points or an item, so these calls tell BAD by a number of their own
    private static final int BAD_POINTS = -1000;
    private static final int LEAST_INT = 1 << 31;
    private static final long LEAST_LONG = 1L << 63;

    // what about() tells of a row; YEAR, PLACE and SORT are the numbers of these fields, too
    private static final int REGISTER = 0, YEAR = 1, PLACE = 2, SORT = 3;
    private static final int LENGTH = 4, TOLD = 5, TAKEN = 6, KNOWN = 7;
    // all but KNOWN are kept: that one changes with the days
    private static final int FACTS = 7;
    private static final int NAME = 0;

    private final Sheets sheets;
    private final Pairs pairs;
    private final Rows rows;
    private final Slips slips;
    private final Sounds sounds;
    private final Weights weights;
    private final Laying laying;
    private final Bundles bundles;
    private final Cut cut;
    private final Checks checks;
    private final Keys keys;

    public OneSelf() {
        sheets = new Sheets();
        pairs = new Pairs();
        rows = pairs.rows;
        slips = pairs.slips;
        sounds = pairs.sounds;
        weights = pairs.weights;
        laying = new Laying();
        bundles = new Bundles();
        cut = new Cut();
        checks = new Checks();
        keys = new Keys();
    }

    // ---- rows

    public int pass(int n) {
        if (!isWithin(n, 1, MOST_DAYS) || rows.day + n > LAST_DAY) {
            return BAD;
        }
        rows.day += n;
        return rows.day;
    }

    public int row(int register, int s, int i, int n, int year, int place, int sort) {
        if (!isBelow(register, REGISTERS) || !Sheets.isSheet(s) || i < 0 || !isWithin(n, 1, LETTERS)
                || !areFacts(year, place, sort)) {
            return BAD;
        }
        if (sheets.isLost(s)) {
            return sheets.noteFinding(NULL);
        }
        if (!sheets.hasItems(s, i, n)) {
            return sheets.noteFinding(INDEX);
        }
        if (!sheets.areLetters(s, i, n)) {
            return NOT;
        }
        if (rows.many >= ROWS) {
            return FULL;
        }
        int row = rows.many;
        rows.add(register, year, place, sort);
        for (int k = 0; k < n; k++) {
            rows.spell(row, sheets.itemAt(s, i + k));
        }
        slips.learn(rows, row);
        sounds.hear(rows, row);
        return row;
    }

    public int takeBack(int row) {
        if (!rows.has(row)) {
            return BAD;
        }
        if (rows.fact(row, TAKEN) != NONE) {
            return NOT;
        }
        rows.takeAway(row);
        return 1;
    }

    public int about(int row, int what) {
        if (!rows.has(row) || !isWithin(what, REGISTER, KNOWN)) {
            return BAD;
        }
        if (what == KNOWN) {
            return asInt(rows.isKnown(row));
        }
        return rows.fact(row, what);
    }

    public int letter(int row, int i) {
        if (!rows.has(row) || i < 0) {
            return BAD;
        }
        if (i >= rows.fact(row, LENGTH)) {
            return NONE;
        }
        return rows.letterAt(row, i);
    }

    public int asOf(int day) {
        if (!isWithin(day, NONE, rows.day)) {
            return BAD;
        }
        int former = rows.asOf;
        rows.asOf = day;
        return former;
    }

    public int way(int a, int b, int w) {
        if (!isBelow(a, PLACES) || !isBelow(b, PLACES) || a == b || !isWithin(w, 0, MOST_WAY)) {
            return BAD;
        }
        return weights.tellWay(a, b, w);
    }

    // ---- names

    public int type(int b) {
        if (!isWithin(b, 0, 255)) {
            return BAD;
        }
        if (sounds.many >= Sounds.BYTES) {
            return FULL;
        }
        sounds.addByte(b);
        sounds.hearAll(rows);
        return sounds.many;
    }

    public int wipe() {
        int former = sounds.many;
        sounds.empty();
        sounds.hearAll(rows);
        return former;
    }

    public int fault() {
        return sounds.fault;
    }

    public int sound(int row, int i) {
        if (!rows.has(row) || i < 0) {
            return BAD;
        }
        if (i >= sounds.lengthOf(row)) {
            return NONE;
        }
        return sounds.signAt(row, i);
    }

    public int slips(int a, int b) {
        if (!rows.has(a) || !rows.has(b)) {
            return BAD;
        }
        return slips.between(a, b);
    }

    // ---- pairs

    public int level(int a, int b, int field) {
        if (!rows.arePair(a, b) || !isBelow(field, FIELDS)) {
            return BAD;
        }
        return pairs.levelOf(a, b, field);
    }

    public int points(int field, int level, int p) {
        if (!isBelow(field, FIELDS) || !isBelow(level, LEVELS)
                || !isWithin(p, -MOST_POINTS, MOST_POINTS)) {
            return BAD_POINTS;
        }
        return weights.tellPoints(field, level, p);
    }

    public int score(int a, int b) {
        if (!rows.arePair(a, b)) {
            return BAD_POINTS;
        }
        return pairs.scoreOf(a, b);
    }

    public int chance(boolean one, int field, int level, int c) {
        if (!isBelow(field, FIELDS) || !isBelow(level, LEVELS) || !isWithin(c, 1, MOST_CHANCE)) {
            return BAD;
        }
        return weights.tellChance(one, field, level, c);
    }

    public long odds(int a, int b, int what) {
        if (!rows.arePair(a, b) || !isBelow(what, 2)) {
            return LEAST_LONG;
        }
        long above = pairs.chancesOf(a, b, true);
        long below = pairs.chancesOf(a, b, false);
        long common = Pairs.greatestDivisor(above, below);
        return (what == 0 ? above : below) / common;
    }

    public int belief(int a, int b, int p, int q) {
        if (!rows.arePair(a, b) || !isWithin(p, 1, MOST_AHEAD)
                || !isWithin(q, p + 1, MOST_PAIRS_AHEAD)) {
            return BAD;
        }
        long part = p * pairs.chancesOf(a, b, true);
        long rest = (q - p) * pairs.chancesOf(a, b, false);
        return Pairs.millionths(part, part + rest);
    }

    // ---- links, layings, bundles

    public int line(int l) {
        if (!isWithin(l, -MOST_LINE, MOST_LINE)) {
            return BAD_POINTS;
        }
        int former = weights.line;
        weights.line = l;
        return former;
    }

    public int links() {
        return pairs.countLinks();
    }

    public int laid(int a, int b, int what) {
        if (!isBelow(a, REGISTERS) || !isBelow(b, REGISTERS) || a == b || !isBelow(what, 2)) {
            return BAD;
        }
        if (!laying.lay(pairs, a, b)) {
            return NOT;
        }
        return what == 0 ? laying.countMates() : laying.sumOfAll();
    }

    public int mate(int row, int b) {
        if (!rows.has(row) || !isBelow(b, REGISTERS) || !rows.isKnown(row)
                || rows.fact(row, REGISTER) == b) {
            return BAD;
        }
        if (!laying.lay(pairs, rows.fact(row, REGISTER), b)) {
            return NOT;
        }
        return laying.mateOf(row);
    }

    public int bundle(int row) {
        if (!rows.has(row)) {
            return BAD;
        }
        if (!rows.isKnown(row)) {
            return NOT;
        }
        bundles.gather(pairs);
        return bundles.numberOf(row);
    }

    public int bundles(int what) {
        if (!isBelow(what, 3)) {
            return BAD;
        }
        bundles.gather(pairs);
        if (what == 2) {
            return bundles.greatest();
        }
        return bundles.countAll(rows, what == 1);
    }

    public int torn(int row) {
        if (!rows.has(row)) {
            return BAD;
        }
        if (!rows.isKnown(row)) {
            return NOT;
        }
        bundles.gather(pairs);
        return asInt(bundles.isTorn(rows, bundles.numberOf(row)));
    }

    public int cut(int a, int b) {
        if (!rows.arePair(a, b)) {
            return BAD;
        }
        if (!rows.areKnown(a, b)) {
            return NOT;
        }
        bundles.gather(pairs);
        int number = bundles.numberOf(a);
        if (number != bundles.numberOf(b)) {
            return NOT;
        }
        if (bundles.sizeOf(number) > CUT_ROWS) {
            return FULL;
        }
        cut.enter(pairs, bundles, number);
        return cut.fewest(a, b);
    }

    // ---- checks

    public int check(int a, int b, boolean one) {
        if (!rows.arePair(a, b)) {
            return BAD;
        }
        if (!checks.hasRoomFor(a, b)) {
            return FULL;
        }
        checks.note(a, b, one);
        return checks.many;
    }

    public int checked(int what) {
        switch (what) {
            case 0: return checks.many;
            case 1: return checks.countOne();
            case 2: return checks.countLinks(pairs, false);
            case 3: return checks.countLinks(pairs, true);
            default: return BAD;
        }
    }

    public int bound(int end) {
        if (!isBelow(end, 2)) {
            return BAD;
        }
        int all = pairs.countLinks();
        if (all == 0) {
            return NOT;
        }
        if (all > BOUND_LINKS) {
            return FULL;
        }
        int seen = checks.countLinks(pairs, false);
        int wrong = checks.countLinks(pairs, true);
        return end == 0 ? Checks.leastFalse(all, seen, wrong) : Checks.mostFalse(all, seen, wrong);
    }

    public int learnt(boolean one, int field, int level) {
        if (!isBelow(field, FIELDS) || !isBelow(level, LEVELS)) {
            return BAD;
        }
        int all = 0;
        for (int each = 0; each < LEVELS; each++) {
            all += checks.countLevel(pairs, one, field, each);
        }
        int some = checks.countLevel(pairs, one, field, level);
        return Checks.thousandths(some + 1, all + LEVELS);
    }

    // ---- keys

    public int meet(int a, int b, int keys) {
        if (!rows.arePair(a, b) || !isWithin(keys, 0, ALL_KEYS)) {
            return BAD;
        }
        if (!rows.areKnown(a, b) || !rows.areOfUnlikeRegisters(a, b)) {
            return NOT;
        }
        return asInt((pairs.alikeBy(a, b) & keys) != 0);
    }

    public int pairs(int keys) {
        if (!isWithin(keys, 0, ALL_KEYS)) {
            return BAD;
        }
        this.keys.tally(pairs);
        return this.keys.pairsBy(keys);
    }

    public int keys() {
        keys.tally(pairs);
        keys.demand(pairs, checks);
        return keys.best();
    }

    // ---- sheets

    public int sheet(int s, int type, int n) {
        if (!Sheets.isSheet(s) || !Sheets.isType(type) || n > Sheets.ITEMS) {
            return BAD;
        }
        if (n < 0) {
            return sheets.noteFinding(SIZE);
        }
        sheets.renew(s, type, n);
        return n;
    }

    public int lose(int s) {
        if (!Sheets.isSheet(s)) {
            return BAD;
        }
        if (sheets.isLost(s)) {
            return sheets.noteFinding(NULL);
        }
        return sheets.forget(s);
    }

    public int put(int s, int type, int i, int v) {
        if (!Sheets.isSheet(s) || !Sheets.isType(type)) {
            return BAD;
        }
        int finding = sheets.hindrance(s, type, i);
        if (finding != 0) {
            return sheets.noteFinding(finding);
        }
        sheets.setItem(s, i, v);
        return 1;
    }

    public int get(int s, int type, int i) {
        if (!Sheets.isSheet(s) || !Sheets.isType(type)) {
            return LEAST_INT;
        }
        int finding = sheets.hindrance(s, type, i);
        if (finding != 0) {
            sheets.noteFinding(finding);
            return LEAST_INT;
        }
        return sheets.itemAt(s, i);
    }

    public int copy(int s, int i, int t, int j, int n) {
        if (!Sheets.isSheet(s) || !Sheets.isSheet(t)) {
            return BAD;
        }
        if (sheets.isLost(s) || sheets.isLost(t)) {
            return sheets.noteFinding(NULL);
        }
        if (!sheets.areOfOneType(s, t)) {
            return sheets.noteFinding(STORE);
        }
        if (!sheets.hasItems(s, i, n) || !sheets.hasItems(t, j, n)) {
            return sheets.noteFinding(INDEX);
        }
        sheets.moveItems(s, i, t, j, n);
        return 1;
    }

    public int write(int row, int s) {
        if (!rows.has(row) || !Sheets.isSheet(s)) {
            return BAD;
        }
        if (sheets.isLost(s)) {
            return sheets.noteFinding(NULL);
        }
        int n = Math.min(sounds.lengthOf(row), sheets.sizeOf(s));
        for (int i = 0; i < n; i++) {
            sheets.setItem(s, i, sounds.signAt(row, i));
        }
        return n;
    }

    public int count(int what) {
        switch (what) {
            case 0: return rows.day;
            case 1: return rows.many;
            case 2: return rows.countKnown();
            case 3: return rows.countKnownOf(0);
            case 4: return rows.countKnownOf(1);
            case 5: return rows.countKnownOf(2);
            case 6: return checks.many;
            case 7: return sounds.many;
            case 8: return sheets.latest;
            default: return BAD;
        }
    }

    public long digest() {
        long h = 17;
        for (int what = 0; what <= 7; what++) {
            h = 31 * h + count(what);
        }
        for (int row = 0; row < rows.many; row++) {
            for (int what = REGISTER; what <= KNOWN; what++) {
                h = 31 * h + about(row, what);
            }
        }
        h = 31 * h + fault();
        h = 31 * h + links();
        for (int what = 0; what <= 2; what++) {
            h = 31 * h + bundles(what);
        }
        for (int what = 0; what <= 3; what++) {
            h = 31 * h + checked(what);
        }
        h = 31 * h + pairs(ALL_KEYS);
        h = 31 * h + laid(0, 1, 0);
        return 31 * h + laid(0, 1, 1);
    }

    // ---- what several acts use

    private static boolean isWithin(int x, int least, int most) {
        return x >= least && x <= most;
    }

    private static boolean isBelow(int x, int many) {
        return x >= 0 && x < many;
    }

    private static boolean isLetter(int x) {
        return isWithin(x, 'a', 'z');
    }

    private static boolean isFigure(int x) {
        return isWithin(x, '0', '9');
    }

    private static boolean areFacts(int year, int place, int sort) {
        return (year == NONE || isWithin(year, FIRST_YEAR, LAST_YEAR))
                && (place == NONE || isBelow(place, PLACES))
                && (sort == NONE || isBelow(sort, SORTS));
    }

    private static int asInt(boolean truth) {
        return truth ? 1 : 0;
    }

    /** Four rows of items, and the latest FINDING. */
    private static final class Sheets {
        private static final int ITEMS = 40;
        private static final int SHEETS = 4, TYPES = 3, LOST = -1;
        private static final int BYTE_TYPE = 0, SHORT_TYPE = 1;

        private final int[] types = new int[SHEETS];
        private final int[] sizes = new int[SHEETS];
        private final int[] items = new int[SHEETS * ITEMS];
        private int latest;

        Sheets() {
            Arrays.fill(types, LOST);
        }

        static boolean isSheet(int s) {
            return isBelow(s, SHEETS);
        }

        static boolean isType(int type) {
            return isBelow(type, TYPES);
        }

        boolean isLost(int s) {
            return types[s] == LOST;
        }

        boolean areOfOneType(int s, int t) {
            return types[s] == types[t];
        }

        int sizeOf(int s) {
            return sizes[s];
        }

        // i is held against what is left, because i + n may go beyond the ints
        boolean hasItems(int s, int i, int n) {
            return i >= 0 && n >= 0 && i <= sizes[s] - n;
        }

        boolean areLetters(int s, int i, int n) {
            for (int k = 0; k < n; k++) {
                if (!isLetter(itemAt(s, i + k))) {
                    return false;
                }
            }
            return true;
        }

        int hindrance(int s, int type, int i) {
            if (isLost(s)) {
                return NULL;
            }
            if (types[s] != type) {
                return CAST;
            }
            return isBelow(i, sizes[s]) ? 0 : INDEX;
        }

        int noteFinding(int finding) {
            latest = finding;
            return -10 - finding;
        }

        int itemAt(int s, int i) {
            return items[s * ITEMS + i];
        }

        void setItem(int s, int i, int v) {
            int kept = v;
            if (types[s] == BYTE_TYPE) {
                kept = (byte) v;
            } else if (types[s] == SHORT_TYPE) {
                kept = (short) v;
            }
            items[s * ITEMS + i] = kept;
        }

        void moveItems(int s, int i, int t, int j, int n) {
            System.arraycopy(items, s * ITEMS + i, items, t * ITEMS + j, n);
        }

        void renew(int s, int type, int n) {
            types[s] = type;
            sizes[s] = n;
            for (int i = 0; i < n; i++) {
                items[s * ITEMS + i] = 0;
            }
        }

        int forget(int s) {
            types[s] = LOST;
            return sizes[s];
        }
    }

    /** The ROWS, and the days as of which they are known. */
    private static final class Rows {
        private final int[] facts = new int[ROWS * FACTS];
        private final int[] letters = new int[ROWS * LETTERS];
        private int many;
        private int day;
        private int asOf = NONE;

        boolean has(int row) {
            return isBelow(row, many);
        }

        boolean arePair(int a, int b) {
            return has(a) && has(b) && a != b;
        }

        void add(int register, int year, int place, int sort) {
            int at = many * FACTS;
            facts[at + REGISTER] = register;
            facts[at + YEAR] = year;
            facts[at + PLACE] = place;
            facts[at + SORT] = sort;
            facts[at + LENGTH] = 0;
            facts[at + TOLD] = day;
            facts[at + TAKEN] = NONE;
            many++;
        }

        void spell(int row, int letter) {
            int length = fact(row, LENGTH);
            if (length < LETTERS) {
                letters[row * LETTERS + length] = letter;
                facts[row * FACTS + LENGTH] = length + 1;
            }
        }

        void takeAway(int row) {
            facts[row * FACTS + TAKEN] = day;
        }

        int fact(int row, int what) {
            return facts[row * FACTS + what];
        }

        int letterAt(int row, int i) {
            return letters[row * LETTERS + i];
        }

        int lastLetter(int row) {
            return letterAt(row, fact(row, LENGTH) - 1);
        }

        boolean isKnown(int row) {
            int upTo = asOf == NONE ? day : asOf;
            int taken = fact(row, TAKEN);
            return fact(row, TOLD) <= upTo && (taken == NONE || taken > upTo);
        }

        boolean areKnown(int a, int b) {
            return isKnown(a) && isKnown(b);
        }

        boolean areOfUnlikeRegisters(int a, int b) {
            return fact(a, REGISTER) != fact(b, REGISTER);
        }

        /** What is missing is alike with nothing. */
        boolean areAlikeIn(int a, int b, int what) {
            return fact(a, what) != NONE && fact(a, what) == fact(b, what);
        }

        int countKnown() {
            int n = 0;
            for (int row = 0; row < many; row++) {
                if (isKnown(row)) {
                    n++;
                }
            }
            return n;
        }

        int countKnownOf(int register) {
            int n = 0;
            for (int row = 0; row < many; row++) {
                if (isKnown(row) && fact(row, REGISTER) == register) {
                    n++;
                }
            }
            return n;
        }
    }

    /** SLIPS of all pairs: counted once when a row is told, since names never change. */
    private static final class Slips {
        private static final int WIDTH = LETTERS + 1;

        private final int[] counts = new int[ROWS * ROWS];
        private final int[] steps = new int[WIDTH * WIDTH];

        int between(int a, int b) {
            return counts[a * ROWS + b];
        }

        void learn(Rows rows, int row) {
            for (int other = 0; other < row; other++) {
                int n = measure(rows, other, row);
                counts[other * ROWS + row] = n;
                counts[row * ROWS + other] = n;
            }
        }

        private int measure(Rows rows, int a, int b) {
            int m = rows.fact(a, LENGTH);
            int n = rows.fact(b, LENGTH);
            for (int i = 0; i <= m; i++) {
                steps[i * WIDTH] = i;
            }
            for (int j = 0; j <= n; j++) {
                steps[j] = j;
            }
            for (int i = 1; i <= m; i++) {
                for (int j = 1; j <= n; j++) {
                    steps[i * WIDTH + j] = fewestSteps(rows, a, i, b, j);
                }
            }
            return steps[m * WIDTH + n];
        }

        private int fewestSteps(Rows rows, int a, int i, int b, int j) {
            int last = rows.letterAt(a, i - 1);
            int otherLast = rows.letterAt(b, j - 1);
            int at = i * WIDTH + j;
            int fewest = Math.min(steps[at - WIDTH], steps[at - 1]) + 1;
            fewest = Math.min(fewest, steps[at - WIDTH - 1] + (last == otherLast ? 0 : 1));
            if (i > 1 && j > 1 && last == rows.letterAt(b, j - 2)
                    && otherLast == rows.letterAt(a, i - 2)) {
                fewest = Math.min(fewest, steps[at - 2 * WIDTH - 2] + 1);
            }
            return fewest;
        }
    }

    /** The text of SOUNDS, and THE SOUND of each name by it. */
    private static final class Sounds {
        private static final int BYTES = 80;
        private static final int ALPHABET = 26;
        private static final int GROUP = 0, LETTER = 1, FIGURE = 2, END = 3;

        private final int[] text = new int[BYTES];
        private final int[] figures = new int[ALPHABET];
        private final int[] signs = new int[ROWS * LETTERS];
        private final int[] lengths = new int[ROWS];
        private int many;
        private int fault;

        Sounds() {
            Arrays.fill(figures, NONE);
        }

        void addByte(int b) {
            if (many < BYTES) {
                text[many] = b;
                many++;
                read();
            }
        }

        void empty() {
            many = 0;
            read();
        }

        private void read() {
            fault = firstFault();
            Arrays.fill(figures, NONE);
            if (fault != NONE) {
                return;
            }
            // from the end, because a group's figure stands behind its letters
            int figure = NONE;
            for (int i = many - 1; i >= 0; i--) {
                if (isFigure(text[i])) {
                    figure = text[i];
                } else if (isLetter(text[i])) {
                    figures[text[i] - 'a'] = figure;
                }
            }
        }

        private int firstFault() {
            int due = GROUP;
            int seen = 0;
            for (int i = 0; i < many; i++) {
                int b = text[i];
                due = dueBehind(due, b);
                if (due == NONE) {
                    return i;
                }
                if (isLetter(b)) {
                    int bit = 1 << (b - 'a');
                    if ((seen & bit) != 0) {
                        return i;
                    }
                    seen |= bit;
                }
            }
            return due == END ? NONE : many;
        }

        private static int dueBehind(int due, int b) {
            if ((due == GROUP || due == LETTER) && isLetter(b)) {
                return LETTER;
            }
            if (due == LETTER && b == '=') {
                return FIGURE;
            }
            if (due == FIGURE && isFigure(b)) {
                return END;
            }
            return due == END && b == ';' ? GROUP : NONE;
        }

        void hearAll(Rows rows) {
            for (int row = 0; row < rows.many; row++) {
                hear(rows, row);
            }
        }

        void hear(Rows rows, int row) {
            int at = row * LETTERS;
            int n = 0;
            int length = rows.fact(row, LENGTH);
            for (int i = 0; i < length; i++) {
                int letter = rows.letterAt(row, i);
                int sign = i == 0 ? letter : signFor(letter);
                if (sign != '0' && (n == 0 || signs[at + n - 1] != sign)) {
                    signs[at + n] = sign;
                    n++;
                }
            }
            lengths[row] = n;
        }

        private int signFor(int letter) {
            int figure = figures[letter - 'a'];
            return figure == NONE ? letter : figure;
        }

        int lengthOf(int row) {
            return lengths[row];
        }

        int signAt(int row, int i) {
            return signs[row * LETTERS + i];
        }

        boolean areAlike(int a, int b) {
            if (lengths[a] != lengths[b]) {
                return false;
            }
            for (int i = 0; i < lengths[a]; i++) {
                if (signs[a * LETTERS + i] != signs[b * LETTERS + i]) {
                    return false;
                }
            }
            return true;
        }
    }

    /** What is told of WAYS, POINTS, CHANCES and the LINE. */
    private static final class Weights {
        private static final int FIRST_WAY = 50, FIRST_LINE = 30;
        private static final int[] FIRST_POINTS = {20, 10, 0, -20};
        private static final int[] FIRST_ONE = {700, 200, 80, 20};
        private static final int[] FIRST_NOT_ONE = {20, 80, 200, 700};

        private final int[] ways = new int[PLACES * PLACES];
        private final int[] points = new int[FIELDS * LEVELS];
        private final int[] chancesOfOne = new int[FIELDS * LEVELS];
        private final int[] chancesOfNot = new int[FIELDS * LEVELS];
        private int line = FIRST_LINE;

        Weights() {
            Arrays.fill(ways, FIRST_WAY);
            for (int field = 0; field < FIELDS; field++) {
                for (int level = 0; level < LEVELS; level++) {
                    points[field * LEVELS + level] = FIRST_POINTS[level];
                    chancesOfOne[field * LEVELS + level] = FIRST_ONE[level];
                    chancesOfNot[field * LEVELS + level] = FIRST_NOT_ONE[level];
                }
            }
        }

        int tellWay(int a, int b, int w) {
            int former = ways[a * PLACES + b];
            ways[a * PLACES + b] = w;
            ways[b * PLACES + a] = w;
            return former;
        }

        int wayBetween(int a, int b) {
            return ways[a * PLACES + b];
        }

        int tellPoints(int field, int level, int p) {
            int former = pointsFor(field, level);
            points[field * LEVELS + level] = p;
            return former;
        }

        int pointsFor(int field, int level) {
            return points[field * LEVELS + level];
        }

        int tellChance(boolean one, int field, int level, int c) {
            int former = chanceFor(one, field, level);
            if (one) {
                chancesOfOne[field * LEVELS + level] = c;
            } else {
                chancesOfNot[field * LEVELS + level] = c;
            }
            return former;
        }

        int chanceFor(boolean one, int field, int level) {
            int at = field * LEVELS + level;
            return one ? chancesOfOne[at] : chancesOfNot[at];
        }
    }

    /** Two rows held against each other. */
    private static final class Pairs {
        // far above what Euclid's way needs for any two longs
        private static final int MOST_STEPS = 200;

        private final Rows rows;
        private final Slips slips;
        private final Sounds sounds;
        private final Weights weights;

        Pairs() {
            rows = new Rows();
            slips = new Slips();
            sounds = new Sounds();
            weights = new Weights();
        }

        int levelOf(int a, int b, int field) {
            if (field == NAME) {
                int n = slips.between(a, b);
                return n <= 2 ? n : sounds.areAlike(a, b) ? 2 : 3;
            }
            int x = rows.fact(a, field);
            int y = rows.fact(b, field);
            if (x == NONE || y == NONE) {
                return NONE;
            }
            if (x == y) {
                return 0;
            }
            if (field == YEAR) {
                int apart = Math.abs(x - y);
                return apart == 1 ? 1 : apart <= 5 ? 2 : 3;
            }
            if (field == PLACE) {
                int way = weights.wayBetween(x, y);
                return way <= 5 ? 1 : way <= 20 ? 2 : 3;
            }
            return 3;
        }

        int scoreOf(int a, int b) {
            int sum = 0;
            for (int field = 0; field < FIELDS; field++) {
                int level = levelOf(a, b, field);
                if (level != NONE) {
                    sum += weights.pointsFor(field, level);
                }
            }
            return sum;
        }

        // four chances of 1000 at most: never above a million millions
        long chancesOf(int a, int b, boolean one) {
            long product = 1;
            for (int field = 0; field < FIELDS; field++) {
                int level = levelOf(a, b, field);
                if (level != NONE) {
                    product *= weights.chanceFor(one, field, level);
                }
            }
            return product;
        }

        static long greatestDivisor(long x, long y) {
            long divisor = x;
            long rest = y;
            for (int step = 0; step < MOST_STEPS && rest != 0; step++) {
                long next = divisor % rest;
                divisor = rest;
                rest = next;
            }
            return Math.max(1, divisor);
        }

        // figure by figure, because a million times the part goes beyond the longs
        static int millionths(long part, long whole) {
            if (whole < 1) {
                return 0;
            }
            int answer = 0;
            long rest = part;
            for (int figure = 0; figure < 6; figure++) {
                rest *= 10;
                answer = answer * 10 + (int) (rest / whole);
                rest %= whole;
            }
            return answer;
        }

        boolean areLinked(int a, int b) {
            return rows.areKnown(a, b) && scoreOf(a, b) >= weights.line;
        }

        int countLinks() {
            int n = 0;
            for (int a = 0; a < rows.many; a++) {
                for (int b = a + 1; b < rows.many; b++) {
                    if (areLinked(a, b)) {
                        n++;
                    }
                }
            }
            return n;
        }

        /** The KEYS, as bits, by which two rows are alike. */
        int alikeBy(int a, int b) {
            boolean likeFirst = rows.letterAt(a, 0) == rows.letterAt(b, 0);
            int bits = sounds.areAlike(a, b) ? 1 : 0;
            bits |= likeFirst ? 2 : 0;
            bits |= areOfOneDecade(a, b) ? 4 : 0;
            bits |= rows.areAlikeIn(a, b, PLACE) ? 8 : 0;
            bits |= rows.lastLetter(a) == rows.lastLetter(b) ? 16 : 0;
            bits |= likeFirst && rows.areAlikeIn(a, b, SORT) ? 32 : 0;
            return bits;
        }

        private boolean areOfOneDecade(int a, int b) {
            int x = rows.fact(a, YEAR);
            int y = rows.fact(b, YEAR);
            return x != NONE && y != NONE && x / 10 == y / 10;
        }
    }

    /**
     * Two registers laid one to one. What a row is laid to stands as a figure to base 11 in one
     * long, the first row's highest, the higher the lesser the mate, and the sum stands above them
     * all: so the greatest long is the greatest sum with the least rows.
     */
    private static final class Laying {
        private static final long BASE = 11;
        private static final long FIRST_FIGURE = 2357947691L; // 11 to the 9th
        private static final long UNIT = BASE * FIRST_FIGURE;

        private final int[] left = new int[LAID_ROWS];
        private final int[] right = new int[LAID_ROWS];
        private final long[] gains = new long[LAID_ROWS];
        private final long[] best = new long[1 << LAID_ROWS];
        private int lefts;
        private int rights;
        private long whole;

        /** Whether it could be done: neither register has too many rows. */
        boolean lay(Pairs pairs, int a, int b) {
            lefts = list(pairs.rows, a, left);
            rights = list(pairs.rows, b, right);
            if (lefts > LAID_ROWS || rights > LAID_ROWS) {
                return false;
            }
            Arrays.fill(best, 0L);
            long figure = FIRST_FIGURE;
            for (int i = 0; i < lefts; i++) {
                if (weigh(pairs, left[i], figure)) {
                    improve();
                }
                figure /= BASE;
            }
            whole = best[(1 << rights) - 1];
            return true;
        }

        private static int list(Rows rows, int register, int[] listed) {
            int n = 0;
            for (int row = 0; row < rows.many; row++) {
                if (rows.isKnown(row) && rows.fact(row, REGISTER) == register) {
                    if (n < listed.length) {
                        listed[n] = row;
                    }
                    n++;
                }
            }
            return n;
        }

        private boolean weigh(Pairs pairs, int row, long figure) {
            boolean any = false;
            for (int j = 0; j < rights; j++) {
                long gain = pairs.scoreOf(row, right[j]) - pairs.weights.line + 1;
                boolean linked = gain >= 1;
                gains[j] = linked ? gain * UNIT + (rights - j) * figure : 0;
                any |= linked;
            }
            return any;
        }

        // sets downward: what a smaller set holds is still without the row that is being laid
        private void improve() {
            for (int set = (1 << rights) - 1; set > 0; set--) {
                for (int j = 0; j < rights; j++) {
                    int bit = 1 << j;
                    if ((set & bit) != 0 && gains[j] != 0) {
                        best[set] = Math.max(best[set], best[set ^ bit] + gains[j]);
                    }
                }
            }
        }

        int sumOfAll() {
            return (int) (whole / UNIT);
        }

        int countMates() {
            int n = 0;
            for (int i = 0; i < lefts; i++) {
                if (figureOf(i) != 0) {
                    n++;
                }
            }
            return n;
        }

        int mateOf(int row) {
            for (int i = 0; i < lefts; i++) {
                int figure = figureOf(i);
                if (left[i] == row && figure >= 1 && figure <= rights) {
                    return right[rights - figure];
                }
            }
            return NONE;
        }

        private int figureOf(int i) {
            long rest = whole % UNIT;
            for (int k = LAID_ROWS - 1; k > i; k--) {
                rest /= BASE;
            }
            return (int) (rest % BASE);
        }
    }

    /** The BUNDLES, gathered anew before each answer. */
    private static final class Bundles {
        private final int[] numbers = new int[ROWS];
        private int many;

        void gather(Pairs pairs) {
            many = pairs.rows.many;
            for (int row = 0; row < many; row++) {
                numbers[row] = pairs.rows.isKnown(row) ? row : NONE;
            }
            for (int a = 0; a < many; a++) {
                for (int b = a + 1; b < many; b++) {
                    if (numbers[a] != numbers[b] && pairs.areLinked(a, b)) {
                        join(numbers[a], numbers[b]);
                    }
                }
            }
        }

        // the lesser number stays, so that each bundle bears its least row
        private void join(int x, int y) {
            int kept = Math.min(x, y);
            int gone = Math.max(x, y);
            for (int row = 0; row < many; row++) {
                if (numbers[row] == gone) {
                    numbers[row] = kept;
                }
            }
        }

        int numberOf(int row) {
            return numbers[row];
        }

        int sizeOf(int number) {
            int n = 0;
            for (int row = 0; row < many; row++) {
                if (numbers[row] == number) {
                    n++;
                }
            }
            return n;
        }

        int greatest() {
            int size = 0;
            for (int row = 0; row < many; row++) {
                if (numbers[row] == row) {
                    size = Math.max(size, sizeOf(row));
                }
            }
            return size;
        }

        int countAll(Rows rows, boolean tornOnly) {
            int n = 0;
            for (int row = 0; row < many; row++) {
                if (numbers[row] == row && (!tornOnly || isTorn(rows, row))) {
                    n++;
                }
            }
            return n;
        }

        boolean isTorn(Rows rows, int number) {
            int registers = 0;
            int sorts = 0;
            for (int row = 0; row < many; row++) {
                if (numbers[row] == number) {
                    int register = 1 << rows.fact(row, REGISTER);
                    if ((registers & register) != 0) {
                        return true;
                    }
                    registers |= register;
                    int sort = rows.fact(row, SORT);
                    sorts |= sort == NONE ? 0 : 1 << sort;
                }
            }
            return sorts == 3;
        }
    }

    /**
     * The fewest links that part two rows: as many as there are ways between them that share no
     * link. A link can be gone once each way; what is gone makes room for the way back.
     */
    private static final class Cut {
        private final int[] members = new int[CUT_ROWS];
        private final int[] room = new int[CUT_ROWS * CUT_ROWS];
        private final int[] reached = new int[CUT_ROWS];
        private final int[] cameFrom = new int[CUT_ROWS];
        private int many;

        void enter(Pairs pairs, Bundles bundles, int number) {
            many = 0;
            for (int row = 0; row < pairs.rows.many; row++) {
                if (bundles.numberOf(row) == number && many < CUT_ROWS) {
                    members[many] = row;
                    many++;
                }
            }
            for (int i = 0; i < many; i++) {
                for (int j = 0; j < many; j++) {
                    boolean linked = i != j && pairs.areLinked(members[i], members[j]);
                    room[i * CUT_ROWS + j] = linked ? 1 : 0;
                }
            }
        }

        int fewest(int a, int b) {
            int start = placeOf(a);
            int goal = placeOf(b);
            int ways = 0;
            // a row has links to all others at most
            while (ways < CUT_ROWS && findWay(start, goal)) {
                goWay(start, goal);
                ways++;
            }
            return ways;
        }

        private int placeOf(int row) {
            for (int i = 0; i < many; i++) {
                if (members[i] == row) {
                    return i;
                }
            }
            return 0;
        }

        private boolean findWay(int start, int goal) {
            Arrays.fill(cameFrom, NONE);
            cameFrom[start] = start;
            reached[0] = start;
            int known = 1;
            for (int k = 0; k < known && k < many; k++) {
                int i = reached[k];
                for (int j = 0; j < many; j++) {
                    if (cameFrom[j] == NONE && room[i * CUT_ROWS + j] > 0) {
                        cameFrom[j] = i;
                        reached[known] = j;
                        known++;
                    }
                }
            }
            return cameFrom[goal] != NONE;
        }

        private void goWay(int start, int goal) {
            int j = goal;
            for (int step = 0; step < many && j != start; step++) {
                int i = cameFrom[j];
                room[i * CUT_ROWS + j]--;
                room[j * CUT_ROWS + i]++;
                j = i;
            }
        }
    }

    /** The CHECKED pairs, the lesser row first in each, and how many false links they bound. */
    private static final class Checks {
        private static final long FORTIETH = 40;

        private final int[] firsts = new int[CHECKS];
        private final int[] seconds = new int[CHECKS];
        private final boolean[] ones = new boolean[CHECKS];
        private int many;

        private int find(int a, int b) {
            int first = Math.min(a, b);
            int second = Math.max(a, b);
            for (int k = 0; k < many; k++) {
                if (firsts[k] == first && seconds[k] == second) {
                    return k;
                }
            }
            return many;
        }

        boolean hasRoomFor(int a, int b) {
            return find(a, b) < CHECKS;
        }

        void note(int a, int b, boolean one) {
            int k = find(a, b);
            if (k >= CHECKS) {
                return;
            }
            firsts[k] = Math.min(a, b);
            seconds[k] = Math.max(a, b);
            ones[k] = one;
            many = Math.max(many, k + 1);
        }

        int countOne() {
            int n = 0;
            for (int k = 0; k < many; k++) {
                if (ones[k]) {
                    n++;
                }
            }
            return n;
        }

        int countLinks(Pairs pairs, boolean wrongOnly) {
            int n = 0;
            for (int k = 0; k < many; k++) {
                if (!(wrongOnly && ones[k]) && pairs.areLinked(firsts[k], seconds[k])) {
                    n++;
                }
            }
            return n;
        }

        int countLevel(Pairs pairs, boolean one, int field, int level) {
            int n = 0;
            for (int k = 0; k < many; k++) {
                int a = firsts[k];
                int b = seconds[k];
                if (ones[k] == one && pairs.rows.areKnown(a, b)
                        && pairs.levelOf(a, b, field) == level) {
                    n++;
                }
            }
            return n;
        }

        static int thousandths(int part, int whole) {
            int nearest = whole < 1 ? 0 : (2000 * part + whole) / (2 * whole);
            return Math.max(1, nearest);
        }

        static int leastFalse(int all, int seen, int wrong) {
            int k = 0;
            while (k < all && !isLikely(all, seen, wrong, k)) {
                k++;
            }
            return k;
        }

        static int mostFalse(int all, int seen, int wrong) {
            int k = all;
            while (k > 0 && !isLikely(all, seen, wrong, k)) {
                k--;
            }
            return k;
        }

        // 40 times the ways to choose 30 of 60 is still a long
        private static boolean isLikely(int all, int seen, int wrong, int falseOnes) {
            long atMost = 0;
            long atLeast = 0;
            for (int found = 0; found <= seen; found++) {
                long ways = waysToChoose(falseOnes, found)
                        * waysToChoose(all - falseOnes, seen - found);
                if (found <= wrong) {
                    atMost += ways;
                }
                if (found >= wrong) {
                    atLeast += ways;
                }
            }
            long whole = waysToChoose(all, seen);
            return FORTIETH * atMost >= whole && FORTIETH * atLeast >= whole;
        }

        private static long waysToChoose(int n, int some) {
            if (some > n) {
                return 0;
            }
            int least = Math.min(some, n - some);
            long ways = 1;
            for (int i = 1; i <= least; i++) {
                ways = ways * (n - least + i) / i;
            }
            return ways;
        }
    }

    /** How many pairs are alike by just which KEYS, and which of these must not be missed. */
    private static final class Keys {
        private final int[] tallies = new int[ALL_KEYS + 1];
        private final boolean[] demanded = new boolean[ALL_KEYS + 1];

        void tally(Pairs pairs) {
            Arrays.fill(tallies, 0);
            Rows rows = pairs.rows;
            for (int a = 0; a < rows.many; a++) {
                for (int b = a + 1; b < rows.many; b++) {
                    if (rows.areOfUnlikeRegisters(a, b) && rows.areKnown(a, b)) {
                        tallies[pairs.alikeBy(a, b)]++;
                    }
                }
            }
        }

        void demand(Pairs pairs, Checks checks) {
            for (int set = 0; set <= ALL_KEYS; set++) {
                demanded[set] = false;
            }
            for (int k = 0; k < checks.many; k++) {
                int a = checks.firsts[k];
                int b = checks.seconds[k];
                if (checks.ones[k] && pairs.rows.areOfUnlikeRegisters(a, b)
                        && pairs.rows.areKnown(a, b)) {
                    demanded[pairs.alikeBy(a, b)] = true;
                }
            }
        }

        int pairsBy(int keys) {
            int n = 0;
            for (int set = 0; set <= ALL_KEYS; set++) {
                if ((set & keys) != 0) {
                    n += tallies[set];
                }
            }
            return n;
        }

        private boolean missNone(int keys) {
            for (int set = 0; set <= ALL_KEYS; set++) {
                if (demanded[set] && (set & keys) == 0) {
                    return false;
                }
            }
            return true;
        }

        int best() {
            int best = NONE;
            for (int keys = 0; keys <= ALL_KEYS; keys++) {
                if (missNone(keys) && (best == NONE || isBetter(keys, best))) {
                    best = keys;
                }
            }
            return best;
        }

        private boolean isBetter(int keys, int best) {
            int fewer = pairsBy(best) - pairsBy(keys);
            if (fewer != 0) {
                return fewer > 0;
            }
            return Integer.bitCount(keys) < Integer.bitCount(best);
        }
    }
}
