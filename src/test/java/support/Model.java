import java.util.ArrayList;
import java.util.Arrays;
import java.util.Comparator;
import java.util.List;
import java.util.TreeSet;
import java.util.regex.Matcher;
import java.util.regex.Pattern;

/**
 * The document once more, as slowly and by as other means as can be (patterns, lists, the machine's
 * own rows), so that a slip in the class is not made here again.
 */
final class Model {
    private static final Pattern TEXT =
            Pattern.compile("v[0-7][0-7]/[1-9]{1,4}(;[tbp][1-9][0-9][0-4][0-9]){1,6}");
    private static final long LOST = Long.MIN_VALUE;

    private static class Thing {
        int bulk, gaiety, longing, kind;
    }

    private List<Thing> things = new ArrayList<>();
    private List<Integer> spaces = new ArrayList<>();
    private TreeSet<Integer> there = new TreeSet<>();
    private List<int[]> readings = new ArrayList<>();
    private final Object[] sheets = new Object[4];
    private int column, row, trace, fault;

    // ---- sets and rows

    private static TreeSet<Integer> members(int bits) {
        TreeSet<Integer> set = new TreeSet<>();
        for (int k = 0; k < 32; k++) {
            if ((bits & 1 << k) != 0) {
                set.add(k);
            }
        }
        return set;
    }

    private static int bits(Iterable<Integer> set) {
        int bits = 0;
        for (int k : set) {
            bits += 1 << k;
        }
        return bits;
    }

    private boolean noSet(int bits) {
        return bits < 0 || members(bits).stream().anyMatch(a -> a >= things.size());
    }

    private boolean noArticle(int a) {
        return a < 0 || a >= things.size();
    }

    private boolean noCity() {
        return things.isEmpty();
    }

    private static boolean noLane(int lane) {
        return lane != 0 && lane != 1 && lane != 2;
    }

    private static boolean noSheet(int k) {
        return k < 0 || k > 3;
    }

    private static int laneOf(Object cells) {
        return cells instanceof byte[] ? 0 : cells instanceof short[] ? 1 : 2;
    }

    private static int sizeOf(Object cells) {
        return java.lang.reflect.Array.getLength(cells);
    }

    private static int cellOf(Object cells, long i) {
        return java.lang.reflect.Array.getInt(cells, (int) i);
    }

    private int fails(int found) {
        fault = found;
        return -10 - found;
    }

    /** 0: n cells from i on can be taken as of that lane. */
    private int faultOf(Object cells, int lane, long i, long n) {
        if (cells != null && laneOf(cells) != lane) {
            return 2;
        }
        if (cells == null) {
            return 1;
        }
        if (n < 0) {
            return 4;
        }
        return i < 0 || i > sizeOf(cells) || i + n > sizeOf(cells) ? 3 : 0;
    }

    // ---- 1

    int city(int sheet, int lane, int i, int n) {
        fault = 0;
        if (noSheet(sheet)) return -1;
        if (noLane(lane)) return -2;
        int found = faultOf(sheets[sheet], lane, i, n);
        if (found != 0) return fails(found);
        StringBuilder text = new StringBuilder();
        for (int p = 0; p < n; p++) {
            int code = cellOf(sheets[sheet], (long) i + p);
            text.append(code >= 0 && code < 128 ? (char) code : '?');
        }
        for (int p = 1; p <= n; p++) {
            Matcher start = TEXT.matcher(text.substring(0, p));
            if (!start.matches() && !start.hitEnd()) return -100 - (p - 1);
        }
        if (!TEXT.matcher(text).matches()) return -100 - n;
        take(text.toString());
        return things.size();
    }

    private void take(String text) {
        String[] parts = text.split(";");
        column = parts[0].charAt(1) - '0';
        row = parts[0].charAt(2) - '0';
        spaces = new ArrayList<>();
        for (char space : parts[0].substring(4).toCharArray()) {
            spaces.add(space - '0');
        }
        things = new ArrayList<>();
        for (int a = 1; a < parts.length; a++) {
            Thing thing = new Thing();
            thing.kind = "tbp".indexOf(parts[a].charAt(0));
            thing.bulk = Integer.parseInt(parts[a].substring(1, 2));
            thing.gaiety = Integer.parseInt(parts[a].substring(2, 3));
            thing.longing = Integer.parseInt(parts[a].substring(3));
            things.add(thing);
        }
        there = new TreeSet<>();
        readings = new ArrayList<>();
    }

    private int laugh(int a) {
        Thing thing = things.get(a);
        return thing.kind == 0 ? thing.gaiety
                : thing.kind == 1 ? (thing.gaiety == 0 ? 0 : thing.gaiety - 1)
                : thing.gaiety + thing.gaiety;
    }

    int ofArticle(int a, int what) {
        if (noArticle(a)) return -1;
        if (what < 0 || what > 5) return -2;
        Thing thing = things.get(a);
        return new int[] {thing.kind, thing.bulk, thing.gaiety, thing.longing, laugh(a),
            there.contains(a) ? 1 : 0}[what];
    }

    int space(int k) {
        return k < 0 || k >= spaces.size() ? -1 : spaces.get(k);
    }

    int cheer(int a, int v) {
        if (noArticle(a)) return -1;
        if (v < 0 || v > 9) return -2;
        int was = things.get(a).gaiety;
        things.get(a).gaiety = v;
        return was;
    }

    int miss(int a, int v) {
        if (noArticle(a)) return -1;
        if (v < 0 || v > 49) return -2;
        int was = things.get(a).longing;
        things.get(a).longing = v;
        return was;
    }

    int widen(int k, int v) {
        if (k < 0 || k >= spaces.size()) return -1;
        if (v < 1 || v > 9) return -2;
        return spaces.set(k, v);
    }

    int shift(int corner) {
        if (corner < 0 || corner > 63) return -2;
        if (noCity()) return -3;
        int was = 8 * row + column;
        row = corner / 8;
        column = corner % 8;
        return was;
    }

    // ---- 2

    private int laughs(Iterable<Integer> set) {
        int sum = 0;
        for (int a : set) {
            sum += laugh(a);
        }
        return sum;
    }

    private TreeSet<Integer> companyOf(TreeSet<Integer> set) {
        TreeSet<Integer> left = new TreeSet<>();
        for (int a : set) {
            TreeSet<Integer> others = new TreeSet<>(set);
            others.remove(a);
            if (laughs(others) >= things.get(a).longing) {
                left.add(a);
            }
        }
        return left.equals(set) ? left : companyOf(left);
    }

    int there() {
        return noCity() ? -3 : bits(there);
    }

    int company(int set) {
        return noCity() ? -3 : noSet(set) ? -2 : bits(companyOf(members(set)));
    }

    int send(int a) {
        if (noArticle(a)) return -1;
        if (!there.add(a)) return -3;
        return keep();
    }

    int call(int a) {
        if (noArticle(a)) return -1;
        if (!there.remove(a)) return -3;
        return keep();
    }

    private int keep() {
        TreeSet<Integer> away = new TreeSet<>(there);
        there = companyOf(there);
        away.removeAll(there);
        return bits(away);
    }

    int laughter() {
        return noCity() ? -3 : laughs(there);
    }

    private int heardAt(int corner, int x, int y, int laughter) {
        int off = Math.abs(corner % 8 - x) + Math.abs(corner / 8 - y);
        return off > laughter ? 0 : laughter - off;
    }

    int heard(int corner) {
        if (corner < 0 || corner > 63) return -2;
        return noCity() ? -3 : heardAt(corner, column, row, laughs(there));
    }

    int year(int sheet, int lane, int i, int n, int what) {
        fault = 0;
        if (noSheet(sheet)) return -1;
        if (noLane(lane) || n < 0 || n > 20 || what < 0 || what > 5) return -2;
        Object cells = sheets[sheet];
        int found = faultOf(cells, lane, i, 2L * n);
        if (found != 0) return fails(found);
        if (noCity()) return -3;
        for (int p = 0; p < n; p++) {
            if (noArticle(cellOf(cells, i + 2 * p))) return -1;
            if ((cellOf(cells, i + 2 * p + 1) & ~1) != 0) return -2;
        }
        // The year is lived through for once, and then undone.
        TreeSet<Integer> before = new TreeSet<>(there);
        int wrong = -9, away = 0, greatest = 0;
        for (int p = 0; p < n; p++) {
            int a = cellOf(cells, i + 2 * p);
            int gone = cellOf(cells, i + 2 * p + 1) == 0 ? send(a) : call(a);
            if (gone == -3) {
                wrong = p;
                break;
            }
            away += members(gone).size();
            greatest = Math.max(greatest, laughs(there));
        }
        int[] answers = {there.size(), wrong, bits(there), away, laughs(there), greatest};
        there = before;
        return wrong == -9 || what == 1 ? answers[what] : -100 - wrong;
    }

    // ---- 3

    int packs(int set, int k) {
        if (noCity()) return -3;
        if (noSet(set) || k < -1 || k > 5) return -2;
        List<Integer> who = new ArrayList<>(members(set));
        int all = 1;
        for (int m = 0; m < who.size(); m++) {
            all *= spaces.size();
        }
        int ways = 0;
        int[] first = new int[6];
        Arrays.fill(first, -9);
        for (int way = 0; way < all; way++) {
            int[] rooms = new int[6];
            int[] filled = new int[spaces.size()];
            int rest = way;
            for (int m = who.size() - 1; m >= 0; m--) {
                rooms[who.get(m)] = rest % spaces.size();
                filled[rest % spaces.size()] += things.get(who.get(m)).bulk;
                rest /= spaces.size();
            }
            boolean fits = true;
            for (int r = 0; r < filled.length; r++) {
                fits &= filled[r] <= spaces.get(r);
            }
            if (fits && ways++ == 0) {
                for (int a : who) {
                    first[a] = rooms[a];
                }
            }
        }
        return k == -1 ? ways : first[k];
    }

    private int fewest(TreeSet<Integer> wanted, boolean itself) {
        List<Integer> sets = new ArrayList<>();
        for (int set = 0; set < 64; set++) {
            sets.add(set);
        }
        sets.sort(Comparator.comparing((Integer set) -> members(set).size()).thenComparing(set -> set));
        for (int set : sets) {
            TreeSet<Integer> called = members(set);
            boolean may = there.containsAll(called) && (itself || !called.containsAll(wanted));
            TreeSet<Integer> rest = new TreeSet<>(there);
            rest.removeAll(called);
            TreeSet<Integer> left = may ? companyOf(rest) : there;
            left = new TreeSet<>(left);
            left.retainAll(wanted);
            if (may && left.isEmpty()) {
                return set;
            }
        }
        return -9;
    }

    int fetch(int set) {
        if (noCity()) return -3;
        if (noSet(set)) return -2;
        return there.containsAll(members(set)) ? fewest(members(set), true) : -3;
    }

    int lure(int a) {
        if (noArticle(a)) return -1;
        return there.contains(a) ? fewest(new TreeSet<>(List.of(a)), false) : -3;
    }

    // ---- 4

    int reading(int corner, int v) {
        if (corner < 0 || corner > 63 || v < 0 || v > 99) return -2;
        if (noCity()) return -3;
        if (readings.size() == 8) return -4;
        readings.add(new int[] {corner, v});
        return readings.size() - 1;
    }

    int back(int k) {
        if (k < 0 || k > readings.size()) return -2;
        readings.subList(readings.size() - k, readings.size()).clear();
        return readings.size();
    }

    private boolean so() {
        return readings.stream().allMatch(r -> heard(r[0]) == r[1]);
    }

    int gaieties(int a) {
        if (noArticle(a)) return -1;
        int was = things.get(a).gaiety;
        TreeSet<Integer> set = new TreeSet<>();
        for (int v = 0; v < 10; v++) {
            things.get(a).gaiety = v;
            if (so()) set.add(v);
        }
        things.get(a).gaiety = was;
        return bits(set);
    }

    int kinds(int a) {
        if (noArticle(a)) return -1;
        int was = things.get(a).kind;
        TreeSet<Integer> set = new TreeSet<>();
        for (int v = 0; v < 3; v++) {
            things.get(a).kind = v;
            if (so()) set.add(v);
        }
        things.get(a).kind = was;
        return bits(set);
    }

    long wheres(int half) {
        if (half < 0 || half > 1 || noCity()) return LOST;
        int was = 8 * row + column;
        long set = 0;
        for (int corner = 63; corner >= 0; corner--) {
            shift(corner);
            if (corner / 32 == half) set = 2 * set + (so() ? 1 : 0);
        }
        shift(was);
        return set;
    }

    long odds(int a, int which) {
        if (noArticle(a) || which < 0 || which > 1 || !there.contains(a)) return LOST;
        int upper = 0, lower = 0;
        for (int set = 0; set < 64; set++) {
            TreeSet<Integer> rest = new TreeSet<>(there);
            if (there.containsAll(members(set))) {
                lower++;
                rest.removeAll(members(set));
                upper += companyOf(rest).contains(a) ? 1 : 0;
            }
        }
        for (int by = lower; by > 1; by--) {
            if (upper % by == 0 && lower % by == 0) {
                upper /= by;
                lower /= by;
            }
        }
        return which == 0 ? upper : lower;
    }

    // ---- 5

    int sheet(int k, int lane, int n) {
        fault = 0;
        if (noSheet(k)) return -1;
        if (noLane(lane) || n > 60) return -2;
        if (n < 0) return fails(4);
        sheets[k] = lane == 0 ? new byte[n] : lane == 1 ? new short[n] : new int[n];
        return 1;
    }

    int lose(int k) {
        if (noSheet(k)) return -1;
        int had = sheets[k] == null ? 0 : 1;
        sheets[k] = null;
        return had;
    }

    int put(int k, int i, int v) {
        fault = 0;
        if (noSheet(k)) return -1;
        if (sheets[k] == null) return fails(1);
        if (i < 0 || i >= sizeOf(sheets[k])) return fails(3);
        if (sheets[k] instanceof byte[]) ((byte[]) sheets[k])[i] = (byte) v;
        if (sheets[k] instanceof short[]) ((short[]) sheets[k])[i] = (short) v;
        if (sheets[k] instanceof int[]) ((int[]) sheets[k])[i] = v;
        return 1;
    }

    long cell(int k, int i, int lane) {
        fault = 0;
        if (noSheet(k) || noLane(lane)) return LOST;
        fault = faultOf(sheets[k], lane, i, 1);
        return fault == 0 ? cellOf(sheets[k], i) : LOST;
    }

    int copy(int k, int i, int other, int j, int n) {
        fault = 0;
        if (noSheet(k) || noSheet(other)) return -1;
        if (sheets[k] == null || sheets[other] == null) return fails(1);
        if (sheets[k].getClass() != sheets[other].getClass()) return fails(2);
        try {
            System.arraycopy(sheets[k], i, sheets[other], j, n);
        } catch (IndexOutOfBoundsException e) {
            return fails(3);
        }
        return n;
    }

    int tell(int a) {
        if (noArticle(a)) return -1;
        int gaiety = things.get(a).gaiety;
        int[][] bodies = {{1}, {2, 1}, {3, 2, 1, 1}};
        int[] sums = {gaiety, gaiety + 100, gaiety + 100 + gaiety};
        for (int body : bodies[things.get(a).kind]) {
            trace = trace * 31 + body;
        }
        return sums[things.get(a).kind];
    }

    int announce(int a) {
        if (noArticle(a)) return -1;
        boolean person = things.get(a).kind == 2;
        trace = trace * 31 + (person ? 5 : 4);
        return person ? 80 : a;
    }

    int as(int a, int kind) {
        fault = 0;
        if (noArticle(a)) return -1;
        if (kind < 0 || kind > 2) return -2;
        return things.get(a).kind < kind ? fails(2) : 1;
    }

    int trace() {
        return trace;
    }

    int fault() {
        return fault;
    }

    int many(int what) {
        if (what < 0 || what > 4) return -2;
        return new int[] {things.size(), spaces.size(), there.size(), 8 * row + column,
            readings.size()}[what];
    }
}
