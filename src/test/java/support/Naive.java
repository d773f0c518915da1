import java.math.BigInteger;
import java.util.ArrayList;
import java.util.HashMap;
import java.util.HashSet;
import java.util.List;
import java.util.Map;
import java.util.Set;

/**
 * What the document says, once more, by other ways than the class takes: whole numbers of any
 * length, texts and sets, and every choice tried where the class calculates. Slow, for tests.
 */
final class Naive {
    static final int NONE = -1, BAD = -2, NOT = -3, FULL = -4;
    static final int LEAST = Integer.MIN_VALUE;

    private static final class Person {
        int register, year, place, sort, told, taken = NONE;
        String name;
    }

    private static final class Check {
        int a, b;
        boolean one;
    }

    private final List<Person> persons = new ArrayList<>();
    private final List<Check> checks = new ArrayList<>();
    private final int[][] sheets = new int[4][];
    private final int[] sheetTypes = new int[4];
    private final Map<String, Integer> ways = new HashMap<>();
    private final int[][] points = new int[4][4];
    private final int[][][] chances = new int[2][4][4];
    private final Map<String, Integer> slipsSoFar = new HashMap<>();
    private final Map<String, String> soundsSoFar = new HashMap<>();
    private String text = "";
    private int day = 0, asOf = NONE, line = 30, latest = 0;

    Naive() {
        for (int field = 0; field < 4; field++) {
            points[field] = new int[] {20, 10, 0, -20};
            chances[1][field] = new int[] {700, 200, 80, 20};
            chances[0][field] = new int[] {20, 80, 200, 700};
        }
    }

    private int found(int finding) {
        latest = finding;
        return -10 - finding;
    }

    private static boolean in(int x, int least, int most) {
        return least <= x && x <= most;
    }

    private boolean isRow(int row) {
        return in(row, 0, persons.size() - 1);
    }

    private boolean isPair(int a, int b) {
        return isRow(a) && isRow(b) && a != b;
    }

    private boolean known(int row) {
        int d = asOf == NONE ? day : asOf;
        Person p = persons.get(row);
        return p.told <= d && !(p.taken != NONE && p.taken <= d);
    }

    private List<Integer> knownRows() {
        List<Integer> rows = new ArrayList<>();
        for (int row = 0; row < persons.size(); row++) {
            if (known(row)) {
                rows.add(row);
            }
        }
        return rows;
    }

    private List<Integer> knownRows(int register) {
        List<Integer> rows = knownRows();
        rows.removeIf(row -> persons.get(row).register != register);
        return rows;
    }

    // ---- rows

    int pass(int n) {
        if (!in(n, 1, 100) || day + n > 399) return BAD;
        return day += n;
    }

    int row(int register, int s, int i, int n, int year, int place, int sort) {
        if (!in(register, 0, 2) || !in(s, 0, 3) || i < 0 || !in(n, 1, 10)
                || !(year == NONE || in(year, 1500, 1999)) || !in(place, -1, 7) || !in(sort, -1, 1)) return BAD;
        if (sheets[s] == null) return found(1);
        if ((long) i + n > sheets[s].length) return found(2);
        StringBuilder name = new StringBuilder();
        for (int k = i; k < i + n; k++) {
            if (!in(sheets[s][k], 97, 122)) return NOT;
            name.append((char) sheets[s][k]);
        }
        if (persons.size() == 36) return FULL;
        Person p = new Person();
        p.register = register;
        p.name = name.toString();
        p.year = year;
        p.place = place;
        p.sort = sort;
        p.told = day;
        persons.add(p);
        return persons.size() - 1;
    }

    int takeBack(int row) {
        if (!isRow(row)) return BAD;
        if (persons.get(row).taken != NONE) return NOT;
        persons.get(row).taken = day;
        return 1;
    }

    int about(int row, int what) {
        if (!isRow(row)) return BAD;
        Person p = persons.get(row);
        switch (what) {
            case 0: return p.register;
            case 1: return p.year;
            case 2: return p.place;
            case 3: return p.sort;
            case 4: return p.name.length();
            case 5: return p.told;
            case 6: return p.taken;
            case 7: return known(row) ? 1 : 0;
            default: return BAD;
        }
    }

    int letter(int row, int i) {
        if (!isRow(row) || i < 0) return BAD;
        String name = persons.get(row).name;
        return i < name.length() ? name.charAt(i) : NONE;
    }

    int asOf(int d) {
        if (!in(d, -1, day)) return BAD;
        int was = asOf;
        asOf = d;
        return was;
    }

    int way(int a, int b, int w) {
        if (!in(a, 0, 7) || !in(b, 0, 7) || a == b || !in(w, 0, 99)) return BAD;
        String key = Math.min(a, b) + "-" + Math.max(a, b);
        int was = ways.getOrDefault(key, 50);
        ways.put(key, w);
        return was;
    }

    // ---- names

    int type(int b) {
        if (!in(b, 0, 255)) return BAD;
        if (text.length() == 80) return FULL;
        text += (char) b;
        soundsSoFar.clear();
        return text.length();
    }

    int wipe() {
        int was = text.length();
        text = "";
        soundsSoFar.clear();
        return was;
    }

    int fault() {
        Set<Character> seen = new HashSet<>();
        for (int i = 0; i < text.length(); i++) {
            String upTo = text.substring(0, i + 1);
            if (!upTo.matches("([a-z]+=[0-9];)*([a-z]+(=[0-9]?)?)?")) return i;
            char c = text.charAt(i);
            if (c >= 'a' && c <= 'z' && !seen.add(c)) return i;
        }
        return text.matches("([a-z]+=[0-9];)*[a-z]+=[0-9]") ? NONE : text.length();
    }

    private String soundOf(int row) {
        return soundsSoFar.computeIfAbsent(persons.get(row).name, this::soundOf);
    }

    private String soundOf(String name) {
        Map<Character, Character> figures = new HashMap<>();
        if (fault() == NONE) {
            for (String group : text.split(";")) {
                for (char c : group.substring(0, group.indexOf('=')).toCharArray()) {
                    figures.put(c, group.charAt(group.indexOf('=') + 1));
                }
            }
        }
        StringBuilder sound = new StringBuilder();
        for (int i = 0; i < name.length(); i++) {
            char c = name.charAt(i);
            sound.append(i == 0 ? c : (char) figures.getOrDefault(c, c));
        }
        return sound.toString().replace("0", "").replaceAll("(.)\\1+", "$1");
    }

    int sound(int row, int i) {
        if (!isRow(row) || i < 0) return BAD;
        String sound = soundOf(row);
        return i < sound.length() ? sound.charAt(i) : NONE;
    }

    int slips(int a, int b) {
        if (!isRow(a) || !isRow(b)) return BAD;
        return slips(persons.get(a).name, persons.get(b).name, slipsSoFar);
    }

    private static int slips(String x, String y, Map<String, Integer> known) {
        if (x.isEmpty() || y.isEmpty()) return x.length() + y.length();
        String key = x + "," + y;
        if (known.containsKey(key)) return known.get(key);
        int best = slips(x.substring(1), y.substring(1), known) + (x.charAt(0) == y.charAt(0) ? 0 : 1);
        best = Math.min(best, 1 + slips(x.substring(1), y, known));
        best = Math.min(best, 1 + slips(x, y.substring(1), known));
        if (x.length() > 1 && y.length() > 1 && x.charAt(0) == y.charAt(1) && x.charAt(1) == y.charAt(0)) {
            best = Math.min(best, 1 + slips(x.substring(2), y.substring(2), known));
        }
        known.put(key, best);
        return best;
    }

    // ---- pairs

    int level(int a, int b, int field) {
        if (!isPair(a, b) || !in(field, 0, 3)) return BAD;
        Person p = persons.get(a);
        Person q = persons.get(b);
        if (field == 0) {
            int n = slips(a, b);
            if (n == 0 || n == 1 || n == 2) return n;
            return soundOf(a).equals(soundOf(b)) ? 2 : 3;
        }
        if (field == 1) {
            if (p.year == NONE || q.year == NONE) return NONE;
            int apart = Math.max(p.year, q.year) - Math.min(p.year, q.year);
            return apart == 0 ? 0 : apart == 1 ? 1 : apart <= 5 ? 2 : 3;
        }
        if (field == 2) {
            if (p.place == NONE || q.place == NONE) return NONE;
            if (p.place == q.place) return 0;
            int w = ways.getOrDefault(Math.min(p.place, q.place) + "-" + Math.max(p.place, q.place), 50);
            return w <= 5 ? 1 : w <= 20 ? 2 : 3;
        }
        if (p.sort == NONE || q.sort == NONE) return NONE;
        return p.sort == q.sort ? 0 : 3;
    }

    int points(int field, int level, int p) {
        if (!in(field, 0, 3) || !in(level, 0, 3) || !in(p, -100, 100)) return -1000;
        int was = points[field][level];
        points[field][level] = p;
        return was;
    }

    int score(int a, int b) {
        if (!isPair(a, b)) return -1000;
        int sum = 0;
        for (int field = 0; field < 4; field++) {
            int level = level(a, b, field);
            if (level >= 0) sum += points[field][level];
        }
        return sum;
    }

    int chance(boolean one, int field, int level, int c) {
        if (!in(field, 0, 3) || !in(level, 0, 3) || !in(c, 1, 1000)) return BAD;
        int was = chances[one ? 1 : 0][field][level];
        chances[one ? 1 : 0][field][level] = c;
        return was;
    }

    private BigInteger product(int a, int b, boolean one) {
        BigInteger product = BigInteger.ONE;
        for (int field = 0; field < 4; field++) {
            int level = level(a, b, field);
            if (level >= 0) product = product.multiply(BigInteger.valueOf(chances[one ? 1 : 0][field][level]));
        }
        return product;
    }

    long odds(int a, int b, int what) {
        if (!isPair(a, b) || !in(what, 0, 1)) return Long.MIN_VALUE;
        BigInteger m = product(a, b, true);
        BigInteger u = product(a, b, false);
        return (what == 0 ? m : u).divide(m.gcd(u)).longValueExact();
    }

    int belief(int a, int b, int p, int q) {
        if (!isPair(a, b) || !in(p, 1, 1000) || q <= p || q > 100000) return BAD;
        BigInteger m = product(a, b, true).multiply(BigInteger.valueOf(p));
        BigInteger u = product(a, b, false).multiply(BigInteger.valueOf(q - p));
        return m.multiply(BigInteger.valueOf(1000000)).divide(m.add(u)).intValueExact();
    }

    // ---- links, layings, bundles

    int line(int l) {
        if (!in(l, -400, 400)) return -1000;
        int was = line;
        line = l;
        return was;
    }

    private boolean linked(int a, int b) {
        return a != b && known(a) && known(b) && score(a, b) >= line;
    }

    int links() {
        int n = 0;
        for (int a : knownRows()) {
            for (int b : knownRows()) {
                if (a < b && linked(a, b)) n++;
            }
        }
        return n;
    }

    /** For each row of the first list its mate or NONE; null where one list is too long. */
    private int[] laying(int a, int b) {
        List<Integer> left = knownRows(a);
        List<Integer> right = knownRows(b);
        if (left.size() > 10 || right.size() > 10) return null;
        Map<String, Integer> known = new HashMap<>();
        int[] mates = new int[left.size()];
        Set<Integer> used = new HashSet<>();
        for (int i = 0; i < left.size(); i++) {
            int best = bestFrom(left, right, i, used, known);
            mates[i] = NONE;
            for (int mate : right) {
                if (used.contains(mate) || !linked(left.get(i), mate)) continue;
                int gain = score(left.get(i), mate) - line + 1;
                used.add(mate);
                if (gain + bestFrom(left, right, i + 1, used, known) == best) {
                    mates[i] = mate;
                    break;
                }
                used.remove(mate);
            }
        }
        return mates;
    }

    private int bestFrom(List<Integer> left, List<Integer> right, int i, Set<Integer> used, Map<String, Integer> known) {
        if (i == left.size()) return 0;
        String key = i + " " + used;
        if (known.containsKey(key)) return known.get(key);
        int best = bestFrom(left, right, i + 1, used, known);
        for (int mate : right) {
            if (used.contains(mate) || !linked(left.get(i), mate)) continue;
            used.add(mate);
            best = Math.max(best, score(left.get(i), mate) - line + 1 + bestFrom(left, right, i + 1, used, known));
            used.remove(mate);
        }
        known.put(key, best);
        return best;
    }

    int laid(int a, int b, int what) {
        if (!in(a, 0, 2) || !in(b, 0, 2) || a == b || !in(what, 0, 1)) return BAD;
        int[] mates = laying(a, b);
        if (mates == null) return NOT;
        List<Integer> left = knownRows(a);
        int n = 0;
        int sum = 0;
        for (int i = 0; i < mates.length; i++) {
            if (mates[i] != NONE) {
                n++;
                sum += score(left.get(i), mates[i]) - line + 1;
            }
        }
        return what == 0 ? n : sum;
    }

    int mate(int row, int b) {
        if (!isRow(row) || !in(b, 0, 2) || !known(row) || persons.get(row).register == b) return BAD;
        int[] mates = laying(persons.get(row).register, b);
        if (mates == null) return NOT;
        return mates[knownRows(persons.get(row).register).indexOf(row)];
    }

    private List<Integer> bundleOf(int row) {
        List<Integer> bundle = new ArrayList<>();
        bundle.add(row);
        for (int k = 0; k < bundle.size(); k++) {
            for (int other : knownRows()) {
                if (!bundle.contains(other) && linked(bundle.get(k), other)) bundle.add(other);
            }
        }
        bundle.sort(null);
        return bundle;
    }

    int bundle(int row) {
        if (!isRow(row)) return BAD;
        return known(row) ? bundleOf(row).get(0) : NOT;
    }

    private boolean isTorn(List<Integer> bundle) {
        for (int a : bundle) {
            for (int b : bundle) {
                Person p = persons.get(a);
                Person q = persons.get(b);
                if (a != b && p.register == q.register) return true;
                if (p.sort == 0 && q.sort == 1) return true;
            }
        }
        return false;
    }

    int bundles(int what) {
        if (!in(what, 0, 2)) return BAD;
        Set<List<Integer>> all = new HashSet<>();
        for (int row : knownRows()) {
            all.add(bundleOf(row));
        }
        int torn = 0;
        int most = 0;
        for (List<Integer> bundle : all) {
            if (isTorn(bundle)) torn++;
            most = Math.max(most, bundle.size());
        }
        return what == 0 ? all.size() : what == 1 ? torn : most;
    }

    int torn(int row) {
        if (!isRow(row)) return BAD;
        return known(row) ? (isTorn(bundleOf(row)) ? 1 : 0) : NOT;
    }

    int cut(int a, int b) {
        if (!isPair(a, b)) return BAD;
        if (!known(a) || !known(b)) return NOT;
        List<Integer> bundle = bundleOf(a);
        if (!bundle.contains(b)) return NOT;
        if (bundle.size() > 12) return FULL;
        boolean[][] link = new boolean[bundle.size()][bundle.size()];
        for (int i = 0; i < bundle.size(); i++) {
            for (int j = 0; j < bundle.size(); j++) {
                link[i][j] = linked(bundle.get(i), bundle.get(j));
            }
        }
        int best = LEAST;
        for (int side = 0; side < 1 << bundle.size(); side++) {
            if ((side >> bundle.indexOf(a) & 1) == 0 || (side >> bundle.indexOf(b) & 1) == 1) continue;
            int n = 0;
            for (int i = 0; i < bundle.size(); i++) {
                for (int j = 0; j < bundle.size(); j++) {
                    if (link[i][j] && (side >> i & 1) == 1 && (side >> j & 1) == 0) n++;
                }
            }
            best = best == LEAST ? n : Math.min(best, n);
        }
        return best;
    }

    // ---- checks

    int check(int a, int b, boolean one) {
        if (!isPair(a, b)) return BAD;
        for (Check c : checks) {
            if (c.a == a && c.b == b || c.a == b && c.b == a) {
                c.one = one;
                return checks.size();
            }
        }
        if (checks.size() == 40) return FULL;
        Check c = new Check();
        c.a = a;
        c.b = b;
        c.one = one;
        checks.add(c);
        return checks.size();
    }

    int checked(int what) {
        if (!in(what, 0, 3)) return BAD;
        int n = 0;
        for (Check c : checks) {
            boolean counts = what == 0 || what == 1 && c.one || what == 2 && linked(c.a, c.b)
                    || what == 3 && linked(c.a, c.b) && !c.one;
            if (counts) n++;
        }
        return n;
    }

    private static BigInteger choose(int n, int k) {
        if (k < 0 || k > n) return BigInteger.ZERO;
        BigInteger ways = BigInteger.ONE;
        for (int i = 0; i < k; i++) {
            ways = ways.multiply(BigInteger.valueOf(n - i)).divide(BigInteger.valueOf(i + 1));
        }
        return ways;
    }

    private static boolean likely(int all, int n, int k, int wrong) {
        BigInteger atMost = BigInteger.ZERO;
        BigInteger atLeast = BigInteger.ZERO;
        for (int x = 0; x <= k; x++) {
            atMost = atMost.add(choose(wrong, x).multiply(choose(all - wrong, n - x)));
        }
        for (int x = k; x <= n; x++) {
            atLeast = atLeast.add(choose(wrong, x).multiply(choose(all - wrong, n - x)));
        }
        BigInteger forty = BigInteger.valueOf(40);
        return atMost.multiply(forty).compareTo(choose(all, n)) >= 0
                && atLeast.multiply(forty).compareTo(choose(all, n)) >= 0;
    }

    int bound(int end) {
        if (!in(end, 0, 1)) return BAD;
        int all = links();
        if (all == 0) return NOT;
        if (all > 60) return FULL;
        List<Integer> likely = new ArrayList<>();
        for (int wrong = 0; wrong <= all; wrong++) {
            if (likely(all, checked(2), checked(3), wrong)) likely.add(wrong);
        }
        return likely.get(end == 0 ? 0 : likely.size() - 1);
    }

    int learnt(boolean one, int field, int level) {
        if (!in(field, 0, 3) || !in(level, 0, 3)) return BAD;
        int all = 0;
        int some = 0;
        for (Check c : checks) {
            if (c.one != one || !known(c.a) || !known(c.b)) continue;
            int l = level(c.a, c.b, field);
            if (l == NONE) continue;
            all++;
            if (l == level) some++;
        }
        // the nearest whole number: what is left out is less than a half, or it is one more
        int times = 1000 * (some + 1);
        int answer = times / (all + 4);
        if (2 * (times - answer * (all + 4)) >= all + 4) answer++;
        return answer < 1 ? 1 : answer;
    }

    // ---- keys

    private String keyOf(int row, int key) {
        Person p = persons.get(row);
        char first = p.name.charAt(0);
        switch (key) {
            case 0: return soundOf(row);
            case 1: return "" + first;
            case 2: return p.year == NONE ? null : String.valueOf(p.year).substring(0, 3);
            case 3: return p.place == NONE ? null : "" + p.place;
            case 4: return p.name.substring(p.name.length() - 1);
            default: return p.sort == NONE ? null : first + "/" + p.sort;
        }
    }

    private boolean meets(int a, int b, int keys) {
        for (int key = 0; key < 6; key++) {
            String k = keyOf(a, key);
            if ((keys >> key & 1) == 1 && k != null && k.equals(keyOf(b, key))) return true;
        }
        return false;
    }

    private boolean unlikeRegisters(int a, int b) {
        return persons.get(a).register != persons.get(b).register;
    }

    int meet(int a, int b, int keys) {
        if (!isPair(a, b) || !in(keys, 0, 63)) return BAD;
        if (!known(a) || !known(b) || !unlikeRegisters(a, b)) return NOT;
        return meets(a, b, keys) ? 1 : 0;
    }

    int pairs(int keys) {
        if (!in(keys, 0, 63)) return BAD;
        int n = 0;
        for (int a : knownRows()) {
            for (int b : knownRows()) {
                if (a < b && unlikeRegisters(a, b) && meets(a, b, keys)) n++;
            }
        }
        return n;
    }

    int keys() {
        int best = NONE;
        int bestPairs = 0;
        for (int size = 0; size <= 6; size++) {
            for (int keys = 0; keys < 64; keys++) {
                if (Integer.bitCount(keys) != size || !missesNone(keys)) continue;
                int n = pairs(keys);
                if (best == NONE || n < bestPairs) {
                    best = keys;
                    bestPairs = n;
                }
            }
        }
        return best;
    }

    private boolean missesNone(int keys) {
        for (Check c : checks) {
            if (c.one && known(c.a) && known(c.b) && unlikeRegisters(c.a, c.b) && !meets(c.a, c.b, keys)) return false;
        }
        return true;
    }

    // ---- sheets

    int sheet(int s, int type, int n) {
        if (!in(s, 0, 3) || !in(type, 0, 2) || n > 40) return BAD;
        if (n < 0) return found(5);
        sheets[s] = new int[n];
        sheetTypes[s] = type;
        return n;
    }

    int lose(int s) {
        if (!in(s, 0, 3)) return BAD;
        if (sheets[s] == null) return found(1);
        int n = sheets[s].length;
        sheets[s] = null;
        return n;
    }

    private int misfit(int s, int type, int i) {
        if (sheets[s] == null) return 1;
        if (sheetTypes[s] != type) return 3;
        return in(i, 0, sheets[s].length - 1) ? 0 : 2;
    }

    private void place(int s, int i, int v) {
        sheets[s][i] = sheetTypes[s] == 0 ? (byte) v : sheetTypes[s] == 1 ? (short) v : v;
    }

    int put(int s, int type, int i, int v) {
        if (!in(s, 0, 3) || !in(type, 0, 2)) return BAD;
        if (misfit(s, type, i) != 0) return found(misfit(s, type, i));
        place(s, i, v);
        return 1;
    }

    int get(int s, int type, int i) {
        if (!in(s, 0, 3) || !in(type, 0, 2)) return LEAST;
        if (misfit(s, type, i) != 0) {
            found(misfit(s, type, i));
            return LEAST;
        }
        return sheets[s][i];
    }

    int copy(int s, int i, int t, int j, int n) {
        if (!in(s, 0, 3) || !in(t, 0, 3)) return BAD;
        if (sheets[s] == null || sheets[t] == null) return found(1);
        if (sheetTypes[s] != sheetTypes[t]) return found(4);
        if (i < 0 || j < 0 || n < 0 || (long) i + n > sheets[s].length || (long) j + n > sheets[t].length) return found(2);
        int[] was = sheets[s].clone();
        for (int k = 0; k < n; k++) {
            sheets[t][j + k] = was[i + k];
        }
        return 1;
    }

    int write(int row, int s) {
        if (!isRow(row) || !in(s, 0, 3)) return BAD;
        if (sheets[s] == null) return found(1);
        String sound = soundOf(row);
        int n = 0;
        while (n < sound.length() && n < sheets[s].length) {
            place(s, n, sound.charAt(n));
            n++;
        }
        return n;
    }

    int count(int what) {
        switch (what) {
            case 0: return day;
            case 1: return persons.size();
            case 2: return knownRows().size();
            case 3: case 4: case 5: return knownRows(what - 3).size();
            case 6: return checks.size();
            case 7: return text.length();
            case 8: return latest;
            default: return BAD;
        }
    }

    long digest() {
        List<Long> all = new ArrayList<>();
        for (int what = 0; what < 8; what++) {
            all.add((long) count(what));
        }
        for (int row = 0; row < persons.size(); row++) {
            for (int what = 0; what < 8; what++) {
                all.add((long) about(row, what));
            }
        }
        all.add((long) fault());
        all.add((long) links());
        for (int what = 0; what < 3; what++) {
            all.add((long) bundles(what));
        }
        for (int what = 0; what < 4; what++) {
            all.add((long) checked(what));
        }
        all.add((long) pairs(63));
        all.add((long) laid(0, 1, 0));
        all.add((long) laid(0, 1, 1));
        BigInteger h = BigInteger.valueOf(17);
        for (long each : all) {
            h = h.multiply(BigInteger.valueOf(31)).add(BigInteger.valueOf(each));
        }
        return h.longValue();
    }
}
