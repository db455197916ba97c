import java.util.ArrayList;
import java.util.List;

/**
 * The document once more, in the plainest way and by other means than WorldIndex: rows are Java's own arrays, whose
 * FAULTS the machine itself finds; kinds are classes; trees, orders and cuts are all gone through.
 */
final class Plain {
    private static final int UNKNOWN = -1, OUTSIDE = -2, STATE = -3, FULL = -4, NONE = -9;
    private static final long LOST = Long.MIN_VALUE;

    static class Line {
        int number, page, asked, sees = NONE;
        boolean wet;
        int kind() { return 0; }
        int points() { return page; }
        int tell(Plain p) { p.begin(1); return page; }
        int quote(Plain p) { p.begin(4); return number; }
        static int lineTell(Line l, Plain p) { p.begin(1); return l.page; }
    }

    static class Dash extends Line {
        @Override int kind() { return 1; }
        @Override int points() { return page + 1; }
        @Override int tell(Plain p) { p.begin(2); return super.tell(p) + 100; }
    }

    static final class Bold extends Dash {
        @Override int kind() { return 2; }
        @Override int points() { return page * 2; }
        @Override int tell(Plain p) { p.begin(3); int dash = super.tell(p); return dash + Line.lineTell(this, p); }
        @Override int quote(Plain p) { p.begin(5); return 20; }
    }

    private final Object[] sheets = new Object[4];
    private List<Line> slips = new ArrayList<>();
    private List<int[]> readings = new ArrayList<>();
    private int questions, trace, fault;

    private void begin(int body) { trace = trace * 31 + body; }

    private static Line make(int kind, Line as) {
        Line made = kind == 2 ? new Bold() : kind == 1 ? new Dash() : new Line();
        made.number = as.number;
        made.page = as.page;
        made.asked = as.asked;
        made.sees = as.sees;
        made.wet = as.wet;
        return made;
    }

    private static List<Line> twin(List<Line> slips) {
        List<Line> twin = new ArrayList<>();
        for (Line s : slips) twin.add(make(s.kind(), s));
        return twin;
    }

    private boolean no(int k) { return k < 0 || k >= slips.size(); }

    private static boolean noSheet(int k) { return k < 0 || k > 3; }

    private static boolean noLane(int lane) { return lane < 0 || lane > 2; }

    private int faulted(RuntimeException e) {
        if (e instanceof NullPointerException) fault = 1;
        else if (e instanceof ClassCastException || e instanceof ArrayStoreException) fault = 2;
        else if (e instanceof IndexOutOfBoundsException) fault = 3;
        else if (e instanceof NegativeArraySizeException) fault = 4;
        else throw e;
        return -10 - fault;
    }

    /** n cells from i on of what a SHEET has, as ints; by the machine's own casts and copies. */
    private static int[] cells(Object sheet, int lane, int i, int n) {
        int[] ints;
        if (lane == 0) {
            byte[] row = (byte[]) sheet;
            if (row.length < 0) return null;
            byte[] taken = new byte[n];
            System.arraycopy(row, i, taken, 0, n);
            ints = new int[n];
            for (int c = 0; c < n; c++) ints[c] = taken[c];
        } else if (lane == 1) {
            short[] row = (short[]) sheet;
            if (row.length < 0) return null;
            short[] taken = new short[n];
            System.arraycopy(row, i, taken, 0, n);
            ints = new int[n];
            for (int c = 0; c < n; c++) ints[c] = taken[c];
        } else {
            int[] row = (int[]) sheet;
            if (row.length < 0) return null;
            // a length the machine has no room for is beyond every row
            if (n > 1000) throw new IndexOutOfBoundsException();
            ints = new int[n];
            System.arraycopy(row, i, ints, 0, n);
        }
        return ints;
    }

    private static int[] someCells(Object sheet, int lane, int i, int n) {
        // as above: no array of two thousand million cells is to be made
        int few = Math.min(n, 1000);
        return cells(sheet, lane, i, few);
    }

    int book(int sheet, int lane, int i, int n) {
        fault = 0;
        if (noSheet(sheet)) return UNKNOWN;
        if (noLane(lane)) return OUTSIDE;
        int[] cells;
        try { cells = someCells(sheets[sheet], lane, i, n); } catch (RuntimeException e) { return faulted(e); }
        StringBuilder text = new StringBuilder();
        for (int c : cells) text.append(c < 0 || c > 127 ? '?' : (char) c);
        String whole = "i(;[ldb][0-4][0-9][0-9][0-9]){2,7}";
        if (!text.toString().matches(whole)) return -100 - firstFault(text.toString(), whole);
        slips = new ArrayList<>();
        String[] parts = text.toString().split(";");
        for (int k = 1; k < parts.length; k++) {
            Line s = new Line();
            s.number = k - 1;
            s.page = Integer.parseInt(parts[k].substring(1, 3));
            s.asked = parts[k].charAt(3) - '0';
            int to = parts[k].charAt(4) - '0';
            s.sees = to < parts.length - 1 ? to : NONE;
            slips.add(make("ldb".indexOf(parts[k].charAt(0)), s));
        }
        readings = new ArrayList<>();
        questions = 0;
        return slips.size();
    }

    /** How many codes of it some whole TEXT begins with. */
    private static int firstFault(String text, String whole) {
        for (int n = text.length(); n > 0; n--) {
            java.util.regex.Matcher m = java.util.regex.Pattern.compile(whole).matcher(text.substring(0, n));
            if (m.matches() || m.hitEnd()) return n;
        }
        return 0;
    }

    private static int looks(List<Line> slips, int k) {
        List<Integer> been = new ArrayList<>();
        int at = k;
        while (at != NONE) {
            if (been.contains(at) || slips.get(at).wet) return NONE;
            been.add(at);
            at = slips.get(at).sees;
        }
        return been.size();
    }

    private static int leaf(List<Line> slips, int k) {
        if (looks(slips, k) == NONE) return NONE;
        Line s = slips.get(k);
        return s.sees == NONE ? s.points() : leaf(slips, s.sees);
    }

    int ofSlip(int k, int what) {
        if (no(k)) return UNKNOWN;
        if (what < 0 || what > 7) return OUTSIDE;
        Line s = slips.get(k);
        return new int[] {s.kind(), s.page, s.asked, s.sees, leaf(slips, k), looks(slips, k), s.wet ? 1 : 0, s.points()}[what];
    }

    int want(int k, int v) {
        if (no(k)) return UNKNOWN;
        if (v < 0 || v > 9) return OUTSIDE;
        int was = slips.get(k).asked;
        slips.get(k).asked = v;
        return was;
    }

    int see(int k, int to) {
        if (no(k)) return UNKNOWN;
        if (to != NONE && no(to)) return UNKNOWN;
        int was = slips.get(k).sees;
        slips.get(k).sees = to;
        return was;
    }

    int ask(int k) {
        if (no(k)) return UNKNOWN;
        questions++;
        return leaf(slips, k);
    }

    private static int wetOnes(List<Line> slips) {
        int set = 0;
        for (Line s : slips) if (s.wet) set += 1 << s.number;
        return set;
    }

    int wet(int k) {
        if (no(k)) return UNKNOWN;
        if (slips.get(k).wet) return STATE;
        slips.get(k).wet = true;
        return many(2);
    }

    int dry(int k) {
        if (no(k)) return UNKNOWN;
        if (!slips.get(k).wet) return STATE;
        slips.get(k).wet = false;
        return many(2);
    }

    int leads(int v) {
        if (v < 0 || v > 98) return OUTSIDE;
        if (slips.isEmpty()) return STATE;
        int set = 0;
        for (Line s : slips) if (leaf(slips, s.number) == v) set += 1 << s.number;
        return set;
    }

    int years(int sheet, int lane, int i, int n, int what) {
        fault = 0;
        if (noSheet(sheet)) return UNKNOWN;
        if (noLane(lane)) return OUTSIDE;
        if (n < 0 || n > 20) return OUTSIDE;
        if (what < 0 || what > 16 || (what > 3 && what < 10)) return OUTSIDE;
        int[] cells;
        try { cells = cells(sheets[sheet], lane, i, 2 * n); } catch (RuntimeException e) { return faulted(e); }
        if (slips.isEmpty()) return STATE;
        for (int p = 0; p < n; p++) {
            int second = cells[2 * p + 1];
            if (second < 0 || second > 19 || (second > 2 && second < 10)) return OUTSIDE;
            if (no(cells[2 * p])) return UNKNOWN;
        }
        List<Line> then = twin(slips);
        int sum = 0, led = 0;
        List<Integer> wrong = new ArrayList<>();
        for (int p = 0; p < n; p++) {
            Line s = then.get(cells[2 * p]);
            int second = cells[2 * p + 1];
            if (second == 0) {
                int leaf = leaf(then, s.number);
                if (leaf == NONE) wrong.add(p); else { sum += leaf; led++; }
            } else if (second < 3) {
                if (s.wet == (second == 1)) wrong.add(p);
                s.wet = second == 1;
            } else {
                s.sees = second - 10 < then.size() ? second - 10 : NONE;
            }
        }
        if (what == 0) return sum;
        if (what == 1) return wrong.isEmpty() ? NONE : wrong.get(0);
        if (what == 2) return led;
        if (what == 3) return wetOnes(then);
        return what - 10 < then.size() ? leaf(then, what - 10) : NONE;
    }

    /** The RING that k is in, as a set; 0 if it is in none. */
    private static int ring(List<Line> slips, int k) {
        int set = 0;
        int at = k;
        for (int step = 0; step < slips.size(); step++) {
            at = slips.get(at).sees;
            if (at == NONE) return 0;
            set |= 1 << at;
            if (at == k) return set;
        }
        return 0;
    }

    int rings(int what) {
        if (what < 0 || what > 1) return OUTSIDE;
        if (slips.isEmpty()) return STATE;
        int all = 0;
        java.util.Set<Integer> rings = new java.util.TreeSet<>();
        for (Line s : slips) {
            int ring = ring(slips, s.number);
            if (ring != 0) rings.add(ring);
            all |= ring;
        }
        return what == 0 ? all : rings.size();
    }

    int cuts() {
        if (slips.isEmpty()) return STATE;
        for (int size = 0; size <= slips.size(); size++) {
            for (int set = 0; set < 1 << slips.size(); set++) {
                if (Integer.bitCount(set) != size) continue;
                List<Line> cut = twin(slips);
                for (Line s : cut) if ((set >> s.number & 1) == 1) s.sees = NONE;
                boolean round = false;
                for (Line s : cut) round |= ring(cut, s.number) != 0;
                if (!round) return set;
            }
        }
        throw new IllegalStateException();
    }

    /** A tree, as its roots in the order root, ahead, behind; with the depth of each. */
    private record Tree(List<Integer> roots, List<Integer> depths) {
        int cost(List<Line> slips) {
            int cost = 0;
            for (int r = 0; r < roots.size(); r++) cost += slips.get(roots.get(r)).asked * depths.get(r);
            return cost;
        }

        boolean isAheadOf(Tree other) {
            for (int r = 0; r < roots.size(); r++) {
                int c = Integer.compare(roots.get(r), other.roots.get(r));
                if (c != 0) return c < 0;
            }
            return false;
        }
    }

    private static List<Tree> trees(List<Integer> row, int depth) {
        List<Tree> all = new ArrayList<>();
        if (row.isEmpty()) all.add(new Tree(List.of(), List.of()));
        for (int r = 0; r < row.size(); r++) {
            for (Tree ahead : trees(row.subList(0, r), depth + 1)) {
                for (Tree behind : trees(row.subList(r + 1, row.size()), depth + 1)) {
                    Tree tree = new Tree(new ArrayList<>(List.of(row.get(r))), new ArrayList<>(List.of(depth)));
                    tree.roots.addAll(ahead.roots);
                    tree.roots.addAll(behind.roots);
                    tree.depths.addAll(ahead.depths);
                    tree.depths.addAll(behind.depths);
                    all.add(tree);
                }
            }
        }
        return all;
    }

    int tree(int k) {
        if (k < -1 || k > 6) return OUTSIDE;
        if (slips.isEmpty()) return STATE;
        List<Integer> dry = new ArrayList<>();
        for (Line s : slips) if (!s.wet) dry.add(s.number);
        Tree best = null;
        int least = 0;
        for (Tree t : trees(dry, 1)) {
            int cost = t.cost(slips);
            if (best == null || cost < least || (cost == least && t.isAheadOf(best))) {
                best = t;
                least = cost;
            }
        }
        if (k == -1) return least;
        int at = best.roots.indexOf(k);
        return at < 0 ? NONE : best.depths.get(at);
    }

    private void allOrders(List<Integer> row, int[] twos, List<List<Integer>> found) {
        if (row.size() == slips.size()) {
            for (int t = 0; t < twos.length; t += 2) if (row.indexOf(twos[t]) >= row.indexOf(twos[t + 1])) return;
            found.add(new ArrayList<>(row));
            return;
        }
        for (int k = 0; k < slips.size(); k++) {
            if (row.contains(k)) continue;
            row.add(k);
            allOrders(row, twos, found);
            row.remove(row.size() - 1);
        }
    }

    int orders(int sheet, int lane, int i, int n, int k) {
        fault = 0;
        if (noSheet(sheet)) return UNKNOWN;
        if (noLane(lane) || n < 0 || n > 10 || k < -1 || k > 6) return OUTSIDE;
        int[] twos;
        try { twos = cells(sheets[sheet], lane, i, 2 * n); } catch (RuntimeException e) { return faulted(e); }
        if (slips.isEmpty()) return STATE;
        for (int c : twos) if (no(c)) return UNKNOWN;
        List<List<Integer>> found = new ArrayList<>();
        allOrders(new ArrayList<>(), twos, found);
        if (k == -1) return found.size();
        return found.isEmpty() || k >= slips.size() ? NONE : found.get(0).get(k);
    }

    int reading(int k, int v) {
        if (no(k)) return UNKNOWN;
        if (v != NONE && (v < 0 || v > 98)) return OUTSIDE;
        if (readings.size() == 8) return FULL;
        readings.add(new int[] {k, v});
        return readings.size() - 1;
    }

    int back(int n) {
        if (n < 0 || n > readings.size()) return OUTSIDE;
        readings = new ArrayList<>(readings.subList(0, readings.size() - n));
        return readings.size();
    }

    private boolean so(List<Line> tried) {
        for (int[] r : readings) if (leaf(tried, r[0]) != r[1]) return false;
        return true;
    }

    int pages(int k, int what) {
        if (no(k)) return UNKNOWN;
        if (what < 0 || what > 2) return OUTSIDE;
        List<Integer> fit = new ArrayList<>();
        for (int page = 0; page < 50; page++) {
            List<Line> tried = twin(slips);
            tried.get(k).page = page;
            if (so(tried)) fit.add(page);
        }
        if (what == 0) return fit.size();
        return fit.isEmpty() ? NONE : fit.get(what == 1 ? 0 : fit.size() - 1);
    }

    int kinds(int k) {
        if (no(k)) return UNKNOWN;
        int set = 0;
        for (int kind = 0; kind < 3; kind++) {
            List<Line> tried = twin(slips);
            tried.set(k, make(kind, slips.get(k)));
            if (so(tried)) set += 1 << kind;
        }
        return set;
    }

    int seen(int k) {
        if (no(k)) return UNKNOWN;
        int set = 0;
        for (int to = 0; to < 8; to++) {
            if (to < 7 && no(to)) continue;
            List<Line> tried = twin(slips);
            tried.get(k).sees = to == 7 ? NONE : to;
            if (so(tried)) set += 1 << to;
        }
        return set;
    }

    long odds(int v, int which) {
        if (v < 0 || v > 98 || which < 0 || which > 1) return LOST;
        long upper = 0, lower = 0;
        for (Line s : slips) {
            lower += s.asked;
            if (leaf(slips, s.number) == v) upper += s.asked;
        }
        if (lower == 0) return LOST;
        for (int d = 63; d > 1; d--) {
            if (upper % d == 0 && lower % d == 0) { upper /= d; lower /= d; }
        }
        return which == 0 ? upper : lower;
    }

    int sheet(int k, int lane, int n) {
        fault = 0;
        if (noSheet(k)) return UNKNOWN;
        if (noLane(lane) || n > 60) return OUTSIDE;
        try {
            sheets[k] = lane == 0 ? new byte[n] : lane == 1 ? new short[n] : new int[n];
        } catch (RuntimeException e) {
            return faulted(e);
        }
        return 1;
    }

    int lose(int k) {
        if (noSheet(k)) return UNKNOWN;
        int had = sheets[k] == null ? 0 : 1;
        sheets[k] = null;
        return had;
    }

    int put(int k, int i, int v) {
        fault = 0;
        if (noSheet(k)) return UNKNOWN;
        try {
            if (sheets[k] instanceof byte[] row) row[i] = (byte) v;
            else if (sheets[k] instanceof short[] row) row[i] = (short) v;
            else ((int[]) sheets[k])[i] = v;
        } catch (RuntimeException e) {
            return faulted(e);
        }
        return 1;
    }

    long cell(int k, int i, int lane) {
        fault = 0;
        if (noSheet(k) || noLane(lane)) return LOST;
        try {
            return lane == 0 ? ((byte[]) sheets[k])[i] : lane == 1 ? ((short[]) sheets[k])[i] : ((int[]) sheets[k])[i];
        } catch (RuntimeException e) {
            faulted(e);
            return LOST;
        }
    }

    int copy(int k, int i, int other, int j, int n) {
        fault = 0;
        if (noSheet(k) || noSheet(other)) return UNKNOWN;
        try {
            System.arraycopy(sheets[k], i, sheets[other], j, n);
        } catch (RuntimeException e) {
            return faulted(e);
        }
        return n;
    }

    int tell(int k) { return no(k) ? UNKNOWN : slips.get(k).tell(this); }

    int quote(int k) { return no(k) ? UNKNOWN : slips.get(k).quote(this); }

    int as(int k, int kind) {
        fault = 0;
        if (no(k)) return UNKNOWN;
        if (kind < 0 || kind > 2) return OUTSIDE;
        try {
            Class<?>[] kinds = {Line.class, Dash.class, Bold.class};
            kinds[kind].cast(slips.get(k));
        } catch (RuntimeException e) {
            return faulted(e);
        }
        return 1;
    }

    int trace() { return trace; }

    int fault() { return fault; }

    int many(int what) {
        if (what < 0 || what > 3) return OUTSIDE;
        return new int[] {slips.size(), questions, Integer.bitCount(wetOnes(slips)), readings.size()}[what];
    }
}
