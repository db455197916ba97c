import java.util.Random;

/** All promises: long runs of calls, drawn by fixed seeds, on WorldIndex and on Plain, call by call. */
public final class RandomRunsTest {
    private static final Check C = new Check();
    private static final int RUNS = 6000, MOST_WRONG = 20;
    /** An object is promised nothing behind its 512th call; some are kept for a last look at its SLIPS or SHEETS. */
    private static final int CALLS = 512, FOR_ONE_STEP = 70, FOR_SLIPS = 75, FOR_SHEETS = 256;
    private static final int[] WILD = {Integer.MIN_VALUE, Integer.MAX_VALUE, -9, -2, -1, 7, 60, 61, 99, 1 << 16};

    private final Random random;
    private final WorldIndex x = new WorldIndex();
    private final Plain p = new Plain();
    private final int run;
    private int calls;
    private final StringBuilder told = new StringBuilder();

    private RandomRunsTest(int run) {
        this.run = run;
        random = new Random(run);
    }

    public static void main(String[] args) {
        for (int run = 0; run < RUNS && C.wrong() < MOST_WRONG; run++) {
            RandomRunsTest one = new RandomRunsTest(run);
            int kept = run % 3 == 0 ? FOR_SHEETS : run % 3 == 1 ? FOR_SLIPS : 0;
            while (one.calls <= CALLS - kept - FOR_ONE_STEP && C.wrong() < MOST_WRONG) {
                one.next();
            }
            if (run % 3 == 0) {
                one.lookAtSheets();
            } else if (run % 3 == 1) {
                one.lookAtSlips();
            }
            if (one.calls > CALLS) {
                throw new IllegalStateException("run " + run + " made " + one.calls + " calls");
            }
        }
        C.end();
    }

    /** A number of lo .. hi, seldom another one. */
    private int in(int lo, int hi) {
        int dice = random.nextInt(40);
        if (dice == 0) {
            return WILD[random.nextInt(WILD.length)];
        }
        if (dice == 1) {
            return random.nextBoolean() ? lo - 1 : hi + 1;
        }
        return lo + random.nextInt(hi - lo + 1);
    }

    private int sure(int below) {
        return random.nextInt(below);
    }

    private int slip() {
        return in(0, Math.max(0, p.many(0) - 1));
    }

    private int leaf() {
        int k = p.many(0) == 0 ? 0 : sure(p.many(0));
        int leaf = sure(4) == 0 ? in(0, 98) : p.ofSlip(k, 4);
        return leaf;
    }

    private void due(String call, long got, long want) {
        calls++;
        C.due("run " + run + ": " + call, got, want);
    }

    private void next() {
        switch (sure(34)) {
            case 0: writeBook(); break;
            case 1: { int k = in(0, 3), lane = in(0, 2), i = in(0, 10), n = in(0, 60);
                due("book", x.book(k, lane, i, n), p.book(k, lane, i, n)); break; }
            case 2: case 3: { int k = slip(), what = in(0, 7);
                due("ofSlip", x.ofSlip(k, what), p.ofSlip(k, what)); break; }
            case 4: { int k = slip(), v = in(0, 9); due("want", x.want(k, v), p.want(k, v)); break; }
            case 5: case 6: { int k = slip(), to = sure(3) == 0 ? -9 : slip();
                due("see", x.see(k, to), p.see(k, to)); break; }
            case 7: { int k = slip(); due("ask", x.ask(k), p.ask(k)); break; }
            case 8: { int k = slip(); due("wet", x.wet(k), p.wet(k)); break; }
            case 9: case 10: { int k = slip(); due("dry", x.dry(k), p.dry(k)); break; }
            case 11: { int v = leaf(); due("leads", x.leads(v), p.leads(v)); break; }
            case 12: case 13: years(); break;
            case 14: { int what = in(0, 1); due("rings", x.rings(what), p.rings(what)); break; }
            case 15: due("cuts", x.cuts(), p.cuts()); break;
            case 16: if (sure(4) == 0) { int k = in(-1, 6); due("tree", x.tree(k), p.tree(k)); } break;
            case 17: if (sure(4) == 0) { orders(); } break;
            case 18: { int k = slip(), v = leaf(); due("reading", x.reading(k, v), p.reading(k, v)); break; }
            case 19: { int n = in(0, 2); due("back", x.back(n), p.back(n)); break; }
            case 20: case 21: { int k = slip(), what = in(0, 2);
                due("pages", x.pages(k, what), p.pages(k, what)); break; }
            case 22: { int k = slip(); due("kinds", x.kinds(k), p.kinds(k)); break; }
            case 23: { int k = slip(); due("seen", x.seen(k), p.seen(k)); break; }
            case 24: { int v = leaf(), which = in(0, 1); due("odds", x.odds(v, which), p.odds(v, which)); break; }
            case 25: sheet(in(0, 3), in(0, 2), in(0, 60)); break;
            case 26: { int k = in(0, 3); if (sure(3) == 0) { due("lose", x.lose(k), p.lose(k)); } break; }
            case 27: put(in(0, 3), in(0, 20), sure(2) == 0 ? random.nextInt() : in(0, 20)); break;
            case 28: { int k = in(0, 3), i = in(0, 20), lane = in(0, 2);
                due("cell", x.cell(k, i, lane), p.cell(k, i, lane)); break; }
            case 29: { int k = in(0, 3), i = in(0, 8), other = in(0, 3), j = in(0, 8), n = in(0, 12);
                due("copy", x.copy(k, i, other, j, n), p.copy(k, i, other, j, n)); break; }
            case 30: { int k = slip(); due("tell", x.tell(k), p.tell(k)); break; }
            case 31: { int k = slip(); due("quote", x.quote(k), p.quote(k)); break; }
            case 32: { int k = slip(), kind = in(0, 2); due("as", x.as(k, kind), p.as(k, kind)); break; }
            default: { int what = in(0, 3); due("many", x.many(what), p.many(what)); break; }
        }
        due("fault", x.fault(), p.fault());
        due("trace", x.trace(), p.trace());
    }

    private void sheet(int k, int lane, int n) {
        due("sheet", x.sheet(k, lane, n), p.sheet(k, lane, n));
    }

    private void put(int k, int i, int v) {
        due("put", x.put(k, i, v), p.put(k, i, v));
    }

    private void writeBook() {
        told.setLength(0);
        told.append('i');
        int slips = sure(12) == 0 ? sure(9) : 2 + sure(6);
        for (int k = 0; k < slips; k++) {
            told.append(';').append("ldb".charAt(sure(3))).append(sure(5)).append(sure(10));
            told.append(sure(10)).append(sure(3) == 0 ? 9 : sure(10));
        }
        int pick = sure(6);
        if (pick == 0) {
            told.setCharAt(sure(told.length()), "ildb;0459:/x".charAt(sure(12)));
        } else if (pick == 1) {
            told.setLength(sure(told.length() + 1));
        }
        int k = sure(4), lane = sure(3), i = told.length() > 50 ? 0 : sure(10);
        sheet(k, lane, told.length() + i);
        for (int c = 0; c < told.length(); c++) {
            put(k, i + c, told.charAt(c));
        }
        due("book", x.book(k, lane, i, told.length()), p.book(k, lane, i, told.length()));
    }

    private void years() {
        int k = sure(4), lane = sure(3), n = sure(21), i = sure(10);
        sheet(k, lane, 2 * n + i);
        for (int c = 0; c < n; c++) {
            put(k, i + 2 * c, sure(Math.max(1, p.many(0))));
            put(k, i + 2 * c + 1, sure(2) == 0 ? 0 : sure(3) == 0 ? 10 + sure(10) : 1 + sure(2));
        }
        if (n > 0 && sure(5) == 0) {
            put(k, i + sure(2 * n), in(-1, 20));
        }
        int from = sure(10) == 0 ? in(0, 12) : i;
        int wild = sure(10) == 0 ? in(0, 20) : n;
        int what = in(0, 3);
        due("years", x.years(k, lane, from, wild, what), p.years(k, lane, from, wild, what));
        what = in(10, 16);
        due("years", x.years(k, lane, from, wild, what), p.years(k, lane, from, wild, what));
    }

    private void orders() {
        int k = sure(4), lane = sure(3), n = sure(11), i = sure(10);
        sheet(k, lane, 2 * n + i);
        for (int c = 0; c < n; c++) {
            int size = Math.max(2, p.many(0));
            int one = sure(size), two = sure(size);
            // mostly ahead by a turned row of numbers, so that there are orders
            boolean turned = (one * 3 + run) % size < (two * 3 + run) % size || sure(12) == 0;
            put(k, i + 2 * c, turned ? one : two);
            put(k, i + 2 * c + 1, turned ? two : one == two ? (two + 1) % size : one);
        }
        if (n > 0 && sure(5) == 0) {
            put(k, i + sure(2 * n), in(-1, 7));
        }
        int place = in(-1, 6);
        due("orders", x.orders(k, lane, i, n, place), p.orders(k, lane, i, n, place));
        due("orders", x.orders(k, lane, i, n, -1), p.orders(k, lane, i, n, -1));
    }

    private void lookAtSlips() {
        for (int what = 0; what < 4; what++) {
            due("many", x.many(what), p.many(what));
        }
        for (int k = 0; k < p.many(0); k++) {
            for (int what = 0; what < 8; what++) {
                due("ofSlip", x.ofSlip(k, what), p.ofSlip(k, what));
            }
            due("tree", x.tree(k), p.tree(k));
        }
    }

    private void lookAtSheets() {
        for (int k = 0; k < 4; k++) {
            int own = 0;
            for (int lane = 0; lane < 3; lane++) {
                due("cell", x.cell(k, 0, lane), p.cell(k, 0, lane));
                own = p.fault() == 2 ? own : lane;
            }
            for (int i = 0; i <= 60; i++) {
                due("cell", x.cell(k, i, own), p.cell(k, i, own));
            }
        }
    }
}
