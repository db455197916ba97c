/** Promises 21 to 31: sheet, lose, put, cell, copy, tell, quote, as, trace, fault, many. */
public final class SheetsTest {
    private static final Check C = new Check();
    private static final long LOST = Long.MIN_VALUE;

    public static void main(String[] args) {
        sheet();
        lose();
        put();
        cell();
        copy();
        copyRefusals();
        tellAndQuote();
        traceWraps();
        as();
        fault();
        many();
        C.end();
    }

    private static void sheet() {
        WorldIndex x = new WorldIndex();
        for (int lane = 0; lane < 3; lane++) {
            C.due("sheet(3, lane, 60)", x.sheet(3, lane, 60), 1);
            C.due("the last cell", x.cell(3, 59, lane), 0);
            x.put(3, 59, 7);
            x.put(3, 0, 7);
        }
        C.due("a new row", x.sheet(3, 2, 60), 1);
        C.due("cell 0 anew", x.cell(3, 0, 2), 0);
        C.due("cell 59 anew", x.cell(3, 59, 2), 0);
        x.put(3, 1, 7);
        C.due("a shorter row", x.sheet(3, 2, 1), 1);
        C.due("beyond it", x.put(3, 1, 0), -13);
        C.due("an empty row", x.sheet(0, 0, 0), 1);
        C.due("cell of an empty row", x.cell(0, 0, 0), LOST);
        C.due("fault()", x.fault(), 3);
        C.due("sheet(4, 3, -1)", x.sheet(4, 3, -1), -1);
        C.due("sheet(-1, 0, 0)", x.sheet(-1, 0, 0), -1);
        C.due("sheet(0, 3, -1)", x.sheet(0, 3, -1), -2);
        C.due("sheet(0, -1, 0)", x.sheet(0, -1, 0), -2);
        C.due("sheet(0, 0, 61)", x.sheet(0, 0, 61), -2);
        C.due("sheet(0, 0, MAX)", x.sheet(0, 0, Integer.MAX_VALUE), -2);
        C.due("fault() of a refusal", x.fault(), 0);
        x.put(3, 0, 5);
        C.due("sheet(3, 0, -1)", x.sheet(3, 0, -1), -14);
        C.due("fault()", x.fault(), 4);
        C.due("sheet(3, 0, MIN)", x.sheet(3, 0, Integer.MIN_VALUE), -14);
        C.due("a FAULT changes nothing", x.cell(3, 0, 2), 5);
    }

    private static void lose() {
        WorldIndex x = new WorldIndex();
        C.due("lose(0)", x.lose(0), 0);
        x.sheet(0, 1, 0);
        C.due("lose(0) of an empty row", x.lose(0), 1);
        C.due("lose(0) again", x.lose(0), 0);
        C.due("put into nothing", x.put(0, 0, 0), -11);
        C.due("lose(4)", x.lose(4), -1);
        C.due("lose(-1)", x.lose(-1), -1);
        C.due("fault() is put's yet", x.fault(), 1);
        C.due("cell of nothing, of another lane", x.cell(0, 0, 0), LOST);
        C.due("fault(): nothing is no CAST", x.fault(), 1);
    }

    private static void put() {
        WorldIndex x = new WorldIndex();
        int[] values = {0, 1, -1, 127, 128, -128, -129, 255, 256, 32767, 32768, -32768, -32769, 65535, 65536 + 300,
            Integer.MAX_VALUE, Integer.MIN_VALUE};
        for (int v : values) {
            for (int lane = 0; lane < 3; lane++) {
                x.sheet(1, lane, 2);
                C.due("put(1, 1, " + v + ")", x.put(1, 1, v), 1);
                long want = lane == 0 ? (byte) v : lane == 1 ? (short) v : v;
                C.due("cell of lane " + lane, x.cell(1, 1, lane), want);
                C.due("the cell ahead of it", x.cell(1, 0, lane), 0);
            }
        }
        C.due("put(4, 0, 0)", x.put(4, 0, 0), -1);
        C.due("put(-1, 0, 0)", x.put(-1, 0, 0), -1);
        C.due("fault() of a refusal", x.fault(), 0);
        C.due("put(2, -1, 0)", x.put(2, -1, 0), -11);
        C.due("fault()", x.fault(), 1);
        int[] no = {-1, 2, 60, Integer.MIN_VALUE, Integer.MAX_VALUE};
        for (int i : no) {
            C.due("put(1, " + i + ", 0)", x.put(1, i, 0), -13);
            C.due("fault()", x.fault(), 3);
        }
        C.due("put(1, 0, 0)", x.put(1, 0, 0), 1);
        C.due("fault() of none", x.fault(), 0);
    }

    private static void lost(WorldIndex x, int k, int i, int lane, int fault) {
        C.due("cell(" + k + ", " + i + ", " + lane + ")", x.cell(k, i, lane), LOST);
        C.due("fault() of it", x.fault(), fault);
    }

    private static void cell() {
        WorldIndex x = new WorldIndex();
        Check.fill(x, 2, 1, 300, -300);
        C.due("cell(2, 0, 1)", x.cell(2, 0, 1), 300);
        C.due("cell(2, 1, 1)", x.cell(2, 1, 1), -300);
        lost(x, 2, 0, 0, 2);
        lost(x, 2, 9, 2, 2);
        lost(x, 2, 2, 1, 3);
        lost(x, 2, -1, 1, 3);
        lost(x, 2, Integer.MAX_VALUE, 1, 3);
        lost(x, 2, Integer.MIN_VALUE, 1, 3);
        lost(x, 1, 9, 0, 1);
        lost(x, 4, 0, 1, 0);
        lost(x, 2, 9, 1, 3);
        lost(x, -1, 0, 1, 0);
        lost(x, 2, 9, 1, 3);
        lost(x, 2, 0, 3, 0);
        lost(x, 2, 0, -1, 0);
        lost(x, 2, 2, 1, 3);
        C.due("cell(2, 1, 1)", x.cell(2, 1, 1), -300);
        C.due("fault() of none", x.fault(), 0);
    }

    private static void row(WorldIndex x, int k, int lane, int... want) {
        for (int i = 0; i < want.length; i++) {
            C.due("cell " + i + " of SHEET " + k, x.cell(k, i, lane), want[i]);
        }
        C.due("length of SHEET " + k, x.cell(k, want.length, lane), LOST);
    }

    private static void copy() {
        WorldIndex x = new WorldIndex();
        Check.fill(x, 0, 1, 1, 2, 3, 4, 5);
        Check.fill(x, 1, 1, 9, 9, 9);
        C.due("copy to another", x.copy(0, 3, 1, 1, 2), 2);
        C.due("fault()", x.fault(), 0);
        row(x, 1, 1, 9, 4, 5);
        row(x, 0, 1, 1, 2, 3, 4, 5);
        C.due("copy onwards in the same", x.copy(0, 0, 0, 1, 4), 4);
        row(x, 0, 1, 1, 1, 2, 3, 4);
        C.due("copy backwards in the same", x.copy(0, 1, 0, 0, 4), 4);
        row(x, 0, 1, 1, 2, 3, 4, 4);
        C.due("copy none, at the ends", x.copy(0, 5, 1, 3, 0), 0);
        C.due("copy all", x.copy(1, 0, 0, 2, 3), 3);
        row(x, 0, 1, 1, 2, 9, 4, 5);
    }

    private static void copyRefusals() {
        WorldIndex x = new WorldIndex();
        Check.fill(x, 0, 1, 1, 2, 3, 4, 5);
        Check.fill(x, 1, 1, 9, 9, 9);
        Check.fill(x, 2, 2, 9, 9, 9);
        C.due("copy(4, ..)", x.copy(4, -1, 3, -1, -1), -1);
        C.due("copy(-1, ..)", x.copy(-1, 0, 0, 0, 0), -1);
        C.due("copy(.., 4, ..)", x.copy(3, -1, 4, -1, -1), -1);
        C.due("copy(.., -1, ..)", x.copy(0, 0, -1, 0, 0), -1);
        C.due("fault()", x.fault(), 0);
        C.due("copy of nothing", x.copy(3, -1, 2, -1, -1), -11);
        C.due("copy to nothing", x.copy(0, -1, 3, -1, -1), -11);
        C.due("copy of nothing to nothing", x.copy(3, 0, 3, 0, 0), -11);
        C.due("fault()", x.fault(), 1);
        C.due("copy of unlike LANES", x.copy(0, -1, 2, -1, -1), -12);
        C.due("fault()", x.fault(), 2);
        C.due("copy none of unlike LANES", x.copy(0, 0, 2, 0, 0), -12);
        int max = Integer.MAX_VALUE;
        int min = Integer.MIN_VALUE;
        int[][] no = {{-1, 0, 0}, {0, -1, 0}, {0, 0, -1}, {6, 0, 0}, {0, 4, 0}, {5, 0, 1}, {0, 3, 1}, {3, 0, 3},
            {0, 1, 3}, {0, 0, 4}, {0, 0, max}, {max, 0, 1}, {0, max, 1}, {max, max, max}, {min, min, min}, {1, 1, min}};
        for (int[] a : no) {
            C.due("copy(0, " + a[0] + ", 1, " + a[1] + ", " + a[2] + ")", x.copy(0, a[0], 1, a[1], a[2]), -13);
            C.due("fault()", x.fault(), 3);
        }
        row(x, 0, 1, 1, 2, 3, 4, 5);
        row(x, 1, 1, 9, 9, 9);
    }

    private static void tellAndQuote() {
        WorldIndex x = Check.withBook(Check.FOUR);
        C.due("tell(0), a LINE", x.tell(0), 10);
        C.due("trace()", x.trace(), 1);
        C.due("tell(1), a DASH", x.tell(1), 120);
        C.due("trace()", x.trace(), (1 * 31 + 2) * 31 + 1);
        WorldIndex y = Check.withBook(Check.FOUR);
        C.due("tell(2), a BOLD one", y.tell(2), 160);
        C.due("trace(): 3, 2, 1, 1", y.trace(), ((3 * 31 + 2) * 31 + 1) * 31 + 1);
        WorldIndex z = Check.withBook(Check.FOUR);
        C.due("quote(3)", z.quote(3), 3);
        C.due("trace()", z.trace(), 4);
        C.due("quote(2), a BOLD one", z.quote(2), 20);
        C.due("trace()", z.trace(), 4 * 31 + 5);
        C.due("quote(1)", z.quote(1), 1);
        C.due("trace()", z.trace(), (4 * 31 + 5) * 31 + 4);
        int was = z.trace();
        C.due("tell(4)", z.tell(4), -1);
        C.due("tell(-1)", z.tell(-1), -1);
        C.due("quote(4)", z.quote(4), -1);
        C.due("quote(-1)", z.quote(-1), -1);
        C.due("trace() of refusals", z.trace(), was);
        z.wet(0);
        C.due("tell(0) of a WET one", z.tell(0), 10);
    }

    private static void traceWraps() {
        WorldIndex x = Check.withBook(Check.FOUR);
        int want = 0;
        for (int call = 0; call < 20; call++) {
            x.quote(2);
            want = want * 31 + 5;
            C.due("trace() behind " + call, x.trace(), want);
        }
    }

    private static void as() {
        WorldIndex x = Check.withBook("i;l1019;d2019;b3019");
        for (int k = 0; k < 3; k++) {
            for (int kind = 0; kind < 3; kind++) {
                C.due("as(" + k + ", " + kind + ")", x.as(k, kind), kind <= k ? 1 : -12);
                C.due("fault()", x.fault(), kind <= k ? 0 : 2);
            }
            C.due("as(k, 3)", x.as(k, 3), -2);
            C.due("as(k, -1)", x.as(k, -1), -2);
        }
        C.due("as(3, 3)", x.as(3, 3), -1);
        C.due("as(-1, 0)", x.as(-1, 0), -1);
        C.due("as(0, 0) without BOOK", new WorldIndex().as(0, 0), -1);
    }

    /** Calls that name no FAULT leave it; those that name one set it, refused or not. */
    private static void fault() {
        WorldIndex x = Check.withBook(Check.FOUR);
        C.due("as(0, 2)", x.as(0, 2), -12);
        x.ofSlip(9, 9);
        x.want(9, 9);
        x.see(9, 9);
        x.ask(9);
        x.wet(9);
        x.dry(0);
        x.leads(99);
        x.rings(9);
        x.cuts();
        x.tree(9);
        x.reading(9, 9);
        x.back(9);
        x.pages(9, 9);
        x.kinds(9);
        x.seen(9);
        x.odds(99, 9);
        x.lose(9);
        x.lose(3);
        x.tell(9);
        x.tell(2);
        x.quote(0);
        x.trace();
        x.many(9);
        C.due("fault() is that of as yet", x.fault(), 2);
        C.due("fault() is that of as yet", x.fault(), 2);
        for (int call = 0; call < 8; call++) {
            x.as(0, 2);
            switch (call) {
                case 0: x.book(9, 0, 0, 0); break;
                case 1: x.years(9, 0, 0, 0, 0); break;
                case 2: x.orders(9, 0, 0, 0, 0); break;
                case 3: x.sheet(9, 0, 0); break;
                case 4: x.put(9, 0, 0); break;
                case 5: x.cell(9, 0, 0); break;
                case 6: x.copy(9, 0, 0, 0, 0); break;
                default: x.as(9, 0); break;
            }
            C.due("fault() of refused call " + call, x.fault(), 0);
        }
        for (int call = 0; call < 8; call++) {
            x.as(0, 2);
            switch (call) {
                case 0: x.book(0, 0, 0, 1); break;
                case 1: x.years(0, 0, 0, 0, 0); break;
                case 2: x.orders(0, 0, 0, 0, 0); break;
                case 3: x.sheet(1, 0, 1); break;
                case 4: x.put(1, 0, 0); break;
                case 5: x.cell(1, 0, 0); break;
                case 6: x.copy(1, 0, 1, 0, 1); break;
                default: x.as(0, 0); break;
            }
            C.due("fault() of answered call " + call, x.fault(), 0);
        }
    }

    private static void many() {
        WorldIndex x = new WorldIndex();
        C.due("many(-1)", x.many(-1), -2);
        C.due("many(4)", x.many(4), -2);
        Check.book(x, Check.SEVEN);
        x.ask(0);
        x.ask(1);
        x.ask(2);
        x.wet(0);
        x.wet(1);
        x.reading(0, 0);
        C.due("many(0)", x.many(0), 7);
        C.due("many(1)", x.many(1), 3);
        C.due("many(2)", x.many(2), 2);
        C.due("many(3)", x.many(3), 1);
        C.due("many(-1)", x.many(-1), -2);
        C.due("many(4)", x.many(4), -2);
    }
}
