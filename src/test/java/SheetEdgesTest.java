/** The edges that the document names of promises 21 to 31, and of part 5 of its terms; a test for each sentence. */
public final class SheetEdgesTest {
    private static final Edges E = new Edges();
    private static final int UNKNOWN = Edges.UNKNOWN, OUTSIDE = Edges.OUTSIDE, STATE = Edges.STATE, NONE = Edges.NONE;
    private static final int MIN = Edges.MIN, MAX = Edges.MAX;
    private static final int[] NO_SHEETS = {-1, 4, NONE, MIN, MAX};
    private static final int[] NO_SLIPS = {-1, 7, NONE, MIN, MAX};

    public static void main(String[] args) {
        sheetOfNoSheet();
        sheetOfNoLane();
        sheetOfTooManyCells();
        sheetOfALengthBelowZero();
        sheetsRefusedInTheirOrder();
        newRowIsZeroAtFirst();
        loseOfNoSheet();
        loseOfNothing();
        putOfNoSheet();
        putIntoNothing();
        putBeyondTheCells();
        putCutsToTheLane();
        cellOfNoSheet();
        cellOfNoLane();
        cellCast();
        cellOfNothing();
        cellBeyondTheCells();
        cellFaultsInTheirOrder();
        copyOfNoSheet();
        copyOfNothing();
        copyOfUnlikeLanes();
        copyBeyondTheCells();
        copyFaultsInTheirOrder();
        copyOfNone();
        copyOfAll();
        copyAsTheyWere();
        tellOfNoSlip();
        tellByBodies();
        quoteOfNoSlip();
        quoteByBodies();
        traceWraps();
        traceIsLeftByBodiesAlone();
        asOfNoSlip();
        asOfNoKind();
        asOfEachKind();
        faultAheadOfAny();
        faultOfTheLatestCallThatNamesOne();
        faultIsLeftByOthers();
        manyOfNoSuchWhat();
        manyWithoutBook();
        E.end();
    }

    // ---- sheet, lose

    private static void sheetOfNoSheet() {
        E.of(Edges::seven, "SHEETS 0 .. 3; sheet: UNKNOWN");
        for (int no : NO_SHEETS) {
            E.refusedOfFaults("sheet(" + no + ", 0, 0)", x -> x.sheet(no, 0, 0), UNKNOWN);
        }
        for (int sheet = 0; sheet < 4; sheet++) {
            int k = sheet;
            E.answersWithoutFault("sheet(" + k + ", 1, 5)", x -> x.sheet(k, 1, 5), 1);
            E.answers("the last cell of it", x -> x.sheet(k, 1, 5) + x.put(k, 4, 7) + x.cell(k, 4, 1), 9);
        }
        // no other SHEET is changed
        E.answers("cell(1, 0, 1)", x -> x.sheet(0, 1, 5) - 1 + x.cell(1, 0, 1), 300);
        E.answers("cell(0, 59, 0)", x -> x.sheet(1, 1, 5) - 1 + x.cell(0, 59, 0), -7);
        E.answers("lose(3)", x -> x.sheet(2, 1, 5) - 1 + x.lose(3), 0);
    }

    private static void sheetOfNoLane() {
        E.of(Edges::seven, "sheet: OUTSIDE: lane");
        for (int no : new int[] {-1, 3, MIN, MAX}) {
            E.refusedOfFaults("sheet(1, " + no + ", 0)", x -> x.sheet(1, no, 0), OUTSIDE);
        }
        for (int lane = 0; lane < 3; lane++) {
            int l = lane;
            E.answersWithoutFault("sheet(1, " + l + ", 1)", x -> x.sheet(1, l, 1), 1);
            for (int as = 0; as < 3; as++) {
                int a = as;
                E.answers("cell as of lane " + a, x -> x.sheet(1, l, 1) - 1 + x.cell(1, 0, a), a == l ? 0 : Edges.LOST);
            }
        }
    }

    private static void sheetOfTooManyCells() {
        E.of(Edges::seven, "a row of 0 .. 60 numbers; sheet: OUTSIDE: n above 60");
        for (int no : new int[] {61, 62, 1000, MAX}) {
            E.refusedOfFaults("sheet(1, 0, " + no + ")", x -> x.sheet(1, 0, no), OUTSIDE);
        }
        for (int n : new int[] {0, 1, 59, 60}) {
            for (int lane = 0; lane < 3; lane++) {
                int l = lane;
                E.answersWithoutFault("sheet(1, " + l + ", " + n + ")", x -> x.sheet(1, l, n), 1);
                E.answers("put behind it", x -> x.sheet(1, l, n) - 1 + x.put(1, n, 1), -13);
                E.answers("put ahead of it", x -> x.sheet(1, l, n) - 1 + x.put(1, n - 1, 1), n == 0 ? -13 : 1);
            }
        }
    }

    private static void sheetOfALengthBelowZero() {
        E.of(Edges::seven, "sheet: SIZE (a length below 0)");
        for (int no : new int[] {-1, -2, MIN}) {
            for (int sheet = 0; sheet < 4; sheet++) {
                int k = sheet;
                E.faulted("sheet(" + k + ", 1, " + no + ")", x -> x.sheet(k, 1, no), Edges.SIZE);
            }
        }
        E.answersWithoutFault("sheet(1, 1, 0)", x -> x.sheet(1, 1, 0), 1);
        E.of(Edges::fresh, "sheet: SIZE of a new object");
        E.faulted("sheet(0, 0, -1)", x -> x.sheet(0, 0, -1), Edges.SIZE);
        E.answers("lose(0) behind it", x -> x.sheet(0, 0, -1) + 14 + x.lose(0), 0);
    }

    private static void sheetsRefusedInTheirOrder() {
        E.of(Edges::seven, "REFUSALS, in the order in which a call's line tells them (sheet)");
        E.refusedOfFaults("UNKNOWN ahead of OUTSIDE", x -> x.sheet(4, 3, 61), UNKNOWN);
        E.refusedOfFaults("UNKNOWN ahead of SIZE", x -> x.sheet(-1, 0, -1), UNKNOWN);
        E.refusedOfFaults("OUTSIDE: lane, ahead of SIZE", x -> x.sheet(0, 3, -1), OUTSIDE);
    }

    private static void newRowIsZeroAtFirst() {
        E.of(Edges::seven, "numbers (0 at first); A SHEET gets a new row");
        for (int lane = 0; lane < 3; lane++) {
            WorldIndex x = new WorldIndex();
            x.sheet(2, 2, 60);
            for (int i = 0; i < 60; i++) {
                x.put(2, i, -1);
            }
            x.sheet(2, lane, 60);
            for (int i = 0; i < 60; i++) {
                E.due("cell(2, " + i + ", " + lane + ")", x.cell(2, i, lane), 0);
            }
        }
        // behind a shorter row, and behind nothing
        E.answers("longer again", x -> x.sheet(1, 1, 1) + x.sheet(1, 1, 2) - 2 + x.cell(1, 1, 1), 0);
        E.answers("behind lose()", x -> x.lose(1) + x.sheet(1, 1, 2) - 2 + x.cell(1, 1, 1), 0);
    }

    private static void loseOfNoSheet() {
        E.of(Edges::seven, "lose: UNKNOWN");
        for (int no : NO_SHEETS) {
            E.refused("lose(" + no + ")", x -> x.lose(no), UNKNOWN);
        }
    }

    private static void loseOfNothing() {
        E.of(Edges::seven, "lose: A SHEET has nothing: 1; 0: it had nothing");
        E.onlyTells("lose(3)", x -> x.lose(3), 0);
        // an empty row is not nothing
        E.answers("lose(2)", x -> x.lose(2), 1);
        E.answers("lose(2) again", x -> x.lose(2) - 1 + x.lose(2), 0);
        E.answers("lose(0)", x -> x.lose(0), 1);
        E.answers("put(0, 0, 0) behind it", x -> x.lose(0) - 1 + x.put(0, 0, 0), -11);
        E.answers("cell(1, 0, 1) behind it", x -> x.lose(0) - 1 + x.cell(1, 0, 1), 300);
        E.answers("many(0) behind it", x -> x.lose(0) - 1 + x.many(0), 7);
    }

    // ---- put, cell

    private static void putOfNoSheet() {
        E.of(Edges::seven, "put: UNKNOWN");
        for (int no : NO_SHEETS) {
            E.refusedOfFaults("put(" + no + ", 0, 0)", x -> x.put(no, 0, 0), UNKNOWN);
            E.refusedOfFaults("put(" + no + ", -1, 0)", x -> x.put(no, -1, 0), UNKNOWN);
        }
    }

    private static void putIntoNothing() {
        E.of(Edges::seven, "put: UNKNOWN; NULL; INDEX");
        for (int i : new int[] {0, -1, 60, MIN, MAX}) {
            E.faulted("put(3, " + i + ", 1)", x -> x.put(3, i, 1), Edges.NULL);
        }
    }

    private static void putBeyondTheCells() {
        E.of(Edges::seven, "put: INDEX");
        for (int i : new int[] {-1, 10, 11, 60, MIN, MAX}) {
            E.faulted("put(1, " + i + ", 1)", x -> x.put(1, i, 1), Edges.INDEX);
        }
        for (int i : new int[] {-1, 60, 61, MIN, MAX}) {
            E.faulted("put(0, " + i + ", 1)", x -> x.put(0, i, 1), Edges.INDEX);
        }
        for (int i : new int[] {-1, 0, 1, MIN, MAX}) {
            E.faulted("put(2, " + i + ", 1)", x -> x.put(2, i, 1), Edges.INDEX);
        }
        E.answersWithoutFault("put(1, 0, 8)", x -> x.put(1, 0, 8), 1);
        E.answersWithoutFault("put(1, 9, 8)", x -> x.put(1, 9, 8), 1);
        E.answersWithoutFault("put(0, 59, 8)", x -> x.put(0, 59, 8), 1);
        E.answers("cell(1, 9, 1) behind it", x -> x.put(1, 9, 8) - 1 + x.cell(1, 9, 1), 8);
        E.answers("the cell ahead of it", x -> x.put(1, 9, 8) - 1 + x.cell(1, 8, 1), 1);
    }

    private static void putCutsToTheLane() {
        E.of(Edges::fresh, "LANE: 0 bytes, 1 shorts, 2 ints; what comes to a cell of it is cut to its LANE");
        int[][] cut = {
            {0, 0, 0}, {1, 1, 1}, {-1, -1, -1}, {127, 127, 127}, {128, -128, 128}, {-128, -128, -128},
            {-129, 127, -129}, {255, -1, 255}, {256, 0, 256}, {32767, -1, 32767}, {32768, 0, -32768},
            {-32768, 0, -32768}, {-32769, -1, 32767}, {65535, -1, -1}, {65536, 0, 0}, {MAX, -1, -1}, {MIN, 0, 0}};
        for (int[] c : cut) {
            for (int lane = 0; lane < 3; lane++) {
                WorldIndex x = new WorldIndex();
                x.sheet(0, lane, 3);
                E.due("put(0, 1, " + c[0] + "), lane " + lane, x.put(0, 1, c[0]), 1);
                E.due("cell(0, 1, " + lane + ") of " + c[0], x.cell(0, 1, lane), lane == 2 ? c[0] : c[1 + lane]);
                E.due("the cell ahead of it", x.cell(0, 0, lane), 0);
                E.due("the cell behind it", x.cell(0, 2, lane), 0);
            }
        }
    }

    private static void cellOfNoSheet() {
        E.of(Edges::seven, "cell: LOST: UNKNOWN");
        for (int no : NO_SHEETS) {
            E.lost("cell(" + no + ", 0, 0)", x -> x.cell(no, 0, 0), 0);
            E.lost("cell(" + no + ", -1, 3)", x -> x.cell(no, -1, 3), 0);
        }
    }

    private static void cellOfNoLane() {
        E.of(Edges::seven, "cell: LOST: OUTSIDE: lane");
        for (int no : new int[] {-1, 3, MIN, MAX}) {
            E.lost("cell(1, 0, " + no + ")", x -> x.cell(1, 0, no), 0);
            E.lost("cell(3, 0, " + no + ")", x -> x.cell(3, 0, no), 0);
            E.lost("cell(1, -1, " + no + ")", x -> x.cell(1, -1, no), 0);
        }
    }

    private static void cellCast() {
        E.of(Edges::seven, "cell: FAULTS CAST");
        for (int sheet = 0; sheet < 3; sheet++) {
            for (int lane = 0; lane < 3; lane++) {
                int k = sheet;
                int l = lane;
                if (k != l) {
                    E.lost("cell(" + k + ", 0, " + l + ")", x -> x.cell(k, 0, l), Edges.CAST);
                    E.lost("cell(" + k + ", 60, " + l + ")", x -> x.cell(k, 60, l), Edges.CAST);
                }
            }
        }
    }

    private static void cellOfNothing() {
        E.of(Edges::seven, "cell: FAULTS CAST (nothing is no CAST), NULL");
        for (int lane = 0; lane < 3; lane++) {
            int l = lane;
            E.lost("cell(3, 0, " + l + ")", x -> x.cell(3, 0, l), Edges.NULL);
            E.lost("cell(3, -1, " + l + ")", x -> x.cell(3, -1, l), Edges.NULL);
        }
        // behind a row of another LANE
        E.of(() -> lostOne(), "cell: nothing is no CAST, where a row was lost");
        E.lost("cell(1, 0, 0)", x -> x.cell(1, 0, 0), Edges.NULL);
        E.lost("cell(1, 0, 1)", x -> x.cell(1, 0, 1), Edges.NULL);
    }

    private static WorldIndex lostOne() {
        WorldIndex x = Edges.seven();
        x.lose(1);
        return x;
    }

    private static void cellBeyondTheCells() {
        E.of(Edges::seven, "cell: FAULTS INDEX");
        for (int i : new int[] {-1, 10, 11, 60, MIN, MAX}) {
            E.lost("cell(1, " + i + ", 1)", x -> x.cell(1, i, 1), Edges.INDEX);
        }
        for (int i : new int[] {-1, 60, 61}) {
            E.lost("cell(0, " + i + ", 0)", x -> x.cell(0, i, 0), Edges.INDEX);
        }
        for (int i : new int[] {-1, 0, 1}) {
            E.lost("cell(2, " + i + ", 2)", x -> x.cell(2, i, 2), Edges.INDEX);
        }
        E.answersAndLeavesAll("cell(1, 0, 1)", x -> x.cell(1, 0, 1), 300);
        E.answersAndLeavesAll("cell(1, 1, 1)", x -> x.cell(1, 1, 1), -300);
        E.answersAndLeavesAll("cell(1, 9, 1)", x -> x.cell(1, 9, 1), 0);
        E.answersAndLeavesAll("cell(0, 59, 0)", x -> x.cell(0, 59, 0), -7);
    }

    private static void cellFaultsInTheirOrder() {
        E.of(Edges::seven, "Of a call the first that is come to, in the order told (cell)");
        E.lost("CAST ahead of INDEX", x -> x.cell(1, -1, 0), Edges.CAST);
        E.lost("CAST ahead of INDEX", x -> x.cell(1, 10, 2), Edges.CAST);
        E.lost("NULL ahead of INDEX", x -> x.cell(3, 10, 2), Edges.NULL);
    }

    // ---- copy

    private static void copyOfNoSheet() {
        E.of(Edges::seven, "copy: UNKNOWN");
        for (int no : NO_SHEETS) {
            E.refusedOfFaults("copy(" + no + ", 0, 1, 0, 0)", x -> x.copy(no, 0, 1, 0, 0), UNKNOWN);
            E.refusedOfFaults("copy(1, 0, " + no + ", 0, 0)", x -> x.copy(1, 0, no, 0, 0), UNKNOWN);
            E.refusedOfFaults("copy(" + no + ", -1, " + no + ", -1, -1)", x -> x.copy(no, -1, no, -1, -1), UNKNOWN);
            E.refusedOfFaults("copy(3, 0, " + no + ", 0, 0)", x -> x.copy(3, 0, no, 0, 0), UNKNOWN);
            E.refusedOfFaults("copy(" + no + ", 0, 3, 0, 0)", x -> x.copy(no, 0, 3, 0, 0), UNKNOWN);
        }
    }

    private static void copyOfNothing() {
        E.of(Edges::seven, "copy: FAULTS NULL (the first, the other)");
        for (int k = 0; k < 4; k++) {
            int other = k;
            E.faulted("copy(3, 0, " + k + ", 0, 0)", x -> x.copy(3, 0, other, 0, 0), Edges.NULL);
            E.faulted("copy(" + k + ", 0, 3, 0, 0)", x -> x.copy(other, 0, 3, 0, 0), Edges.NULL);
            E.faulted("copy(3, -1, " + k + ", -1, -1)", x -> x.copy(3, -1, other, -1, -1), Edges.NULL);
            E.faulted("copy(" + k + ", -1, 3, -1, -1)", x -> x.copy(other, -1, 3, -1, -1), Edges.NULL);
        }
    }

    private static void copyOfUnlikeLanes() {
        E.of(Edges::seven, "copy: FAULTS CAST (unlike LANES)");
        for (int from = 0; from < 3; from++) {
            for (int to = 0; to < 3; to++) {
                int k = from;
                int other = to;
                if (k != other) {
                    E.faulted("copy(" + k + ", 0, " + other + ", 0, 0)", x -> x.copy(k, 0, other, 0, 0), Edges.CAST);
                    E.faulted("copy(" + k + ", 0, " + other + ", 0, 1)", x -> x.copy(k, 0, other, 0, 1), Edges.CAST);
                } else {
                    E.answersAndLeavesAll("copy(" + k + ", 0, " + k + ", 0, 0)", x -> x.copy(k, 0, other, 0, 0), 0);
                }
            }
        }
    }

    /** SHEET 0 has 5 shorts, SHEET 1 has 3, SHEET 2 none. */
    private static WorldIndex shorts() {
        WorldIndex x = new WorldIndex();
        Check.fill(x, 0, 1, 1, 2, 3, 4, 5);
        Check.fill(x, 1, 1, 7, 8, 9);
        x.sheet(2, 1, 0);
        return x;
    }

    private static void copyBeyondTheCells() {
        E.of(SheetEdgesTest::shorts, "copy: FAULTS INDEX: i, j, n below 0 or beyond");
        int[][] beyond = {{-1, 0, 0}, {0, -1, 0}, {0, 0, -1}, {-1, 0, 1}, {0, -1, 1}, {6, 0, 0}, {0, 4, 0}, {5, 0, 1},
            {0, 3, 1}, {4, 0, 2}, {3, 0, 3}, {0, 2, 2}, {0, 1, 3}, {0, 0, 4}, {2, 0, 4}, {5, 3, -1}, {1, 1, -1},
            {0, 0, MIN}, {0, 0, MAX}, {MIN, 0, 0}, {MAX, 0, 0}, {0, MIN, 0}, {0, MAX, 0}, {MAX, MAX, MAX}, {MIN, MIN, MIN},
            {1, 1, MAX}, {MAX, 0, 1}, {0, MAX, 1}, {-1, -1, -1}};
        for (int[] b : beyond) {
            E.faulted("copy(0, " + b[0] + ", 1, " + b[1] + ", " + b[2] + ")",
                x -> x.copy(0, b[0], 1, b[1], b[2]), Edges.INDEX);
        }
        int[][] same = {{0, 1, 5}, {1, 0, 5}, {0, 0, 6}, {-1, 0, 0}, {0, -1, 0}, {6, 0, 0}, {0, 6, 0}, {0, 0, -1}};
        for (int[] b : same) {
            E.faulted("copy(0, " + b[0] + ", 0, " + b[1] + ", " + b[2] + ")",
                x -> x.copy(0, b[0], 0, b[1], b[2]), Edges.INDEX);
        }
        int[][] inside = {{2, 0, 3}, {0, 0, 3}, {4, 2, 1}, {3, 1, 2}, {5, 3, 0}, {0, 0, 0}, {0, 3, 0}, {5, 0, 0}};
        for (int[] b : inside) {
            E.answersWithoutFault("copy(0, " + b[0] + ", 1, " + b[1] + ", " + b[2] + ")",
                x -> x.copy(0, b[0], 1, b[1], b[2]), b[2]);
        }
    }

    private static void copyFaultsInTheirOrder() {
        E.of(Edges::seven, "Of a call the first that is come to, in the order told (copy)");
        E.faulted("NULL ahead of CAST and INDEX", x -> x.copy(3, -1, 0, -1, -1), Edges.NULL);
        E.faulted("NULL, the other, ahead of INDEX of the first", x -> x.copy(0, -1, 3, 0, 0), Edges.NULL);
        E.faulted("CAST ahead of INDEX: i", x -> x.copy(0, -1, 1, 0, 0), Edges.CAST);
        E.faulted("CAST ahead of INDEX: j", x -> x.copy(0, 0, 1, 11, 0), Edges.CAST);
        E.faulted("CAST ahead of INDEX: n", x -> x.copy(0, 0, 1, 0, -1), Edges.CAST);
        E.faulted("n below 0 is no SIZE", x -> x.copy(0, 0, 0, 0, -1), Edges.INDEX);
    }

    private static void copyOfNone() {
        E.of(SheetEdgesTest::shorts, "copy: n cells (none)");
        E.answersAndLeavesAll("copy(0, 0, 1, 0, 0)", x -> x.copy(0, 0, 1, 0, 0), 0);
        E.answersAndLeavesAll("copy(0, 5, 1, 3, 0)", x -> x.copy(0, 5, 1, 3, 0), 0);
        E.answersAndLeavesAll("copy(2, 0, 0, 0, 0)", x -> x.copy(2, 0, 0, 0, 0), 0);
        E.answersAndLeavesAll("copy(2, 0, 2, 0, 0)", x -> x.copy(2, 0, 2, 0, 0), 0);
        E.faulted("copy(2, 0, 0, 0, 1)", x -> x.copy(2, 0, 0, 0, 1), Edges.INDEX);
        E.faulted("copy(0, 0, 2, 0, 1)", x -> x.copy(0, 0, 2, 0, 1), Edges.INDEX);
        E.faulted("copy(2, 1, 0, 0, 0)", x -> x.copy(2, 1, 0, 0, 0), Edges.INDEX);
    }

    private static void row(String name, WorldIndex x, int k, int... want) {
        for (int i = 0; i < want.length; i++) {
            E.due(name + ", cell " + i + " of SHEET " + k, x.cell(k, i, 1), want[i]);
        }
        E.due(name + ", behind the last of SHEET " + k, x.cell(k, want.length, 1), Edges.LOST);
    }

    private static void copyOfAll() {
        E.of(SheetEdgesTest::shorts, "copy: n cells of a SHEET from i on go to another one from j on: n");
        WorldIndex x = shorts();
        E.due("copy(0, 2, 1, 0, 3)", x.copy(0, 2, 1, 0, 3), 3);
        row("the last three", x, 1, 3, 4, 5);
        row("the last three", x, 0, 1, 2, 3, 4, 5);
        x = shorts();
        E.due("copy(0, 0, 1, 2, 1)", x.copy(0, 0, 1, 2, 1), 1);
        row("one to the last", x, 1, 7, 8, 1);
        x = shorts();
        E.due("copy(1, 0, 0, 2, 3)", x.copy(1, 0, 0, 2, 3), 3);
        row("all to the end", x, 0, 1, 2, 7, 8, 9);
        for (int lane = 0; lane < 3; lane++) {
            WorldIndex y = new WorldIndex();
            y.sheet(0, lane, 60);
            y.sheet(3, lane, 60);
            y.put(0, 0, -5);
            y.put(0, 59, MIN + 77);
            E.due("copy of sixty", y.copy(0, 0, 3, 0, 60), 60);
            E.due("the first of sixty", y.cell(3, 0, lane), -5);
            E.due("the last of sixty", y.cell(3, 59, lane), lane == 2 ? MIN + 77 : 77);
        }
    }

    private static void copyAsTheyWere() {
        E.of(SheetEdgesTest::shorts, "copy: (perhaps the same) from j on, as they were");
        int[][] due = {{0, 1, 4, 1, 1, 2, 3, 4}, {1, 0, 4, 2, 3, 4, 5, 5}, {0, 2, 3, 1, 2, 1, 2, 3}, {2, 0, 3, 3, 4, 5, 4, 5},
            {0, 0, 5, 1, 2, 3, 4, 5}, {0, 4, 1, 1, 2, 3, 4, 1}, {4, 0, 1, 5, 2, 3, 4, 5}, {1, 2, 2, 1, 2, 2, 3, 5}};
        for (int[] d : due) {
            WorldIndex x = shorts();
            String name = "copy(0, " + d[0] + ", 0, " + d[1] + ", " + d[2] + ")";
            E.due(name, x.copy(0, d[0], 0, d[1], d[2]), d[2]);
            row(name, x, 0, d[3], d[4], d[5], d[6], d[7]);
        }
        // what went is not tied to where it came from
        WorldIndex x = shorts();
        x.copy(0, 0, 1, 0, 3);
        x.put(0, 0, 77);
        row("a later put", x, 1, 1, 2, 3);
    }

    // ---- tell, quote, trace

    private static void tellOfNoSlip() {
        E.of(Edges::seven, "tell: UNKNOWN");
        for (int no : NO_SLIPS) {
            E.refused("tell(" + no + ")", x -> x.tell(no), UNKNOWN);
        }
        E.of(Edges::two, "tell: UNKNOWN, of two SLIPS");
        E.refused("tell(2)", x -> x.tell(2), UNKNOWN);
        E.answers("tell(1)", x -> x.tell(1), 105);
        E.answers("tell(0)", x -> x.tell(0), 12);
    }

    private static void tellByBodies() {
        String words = "LINE (1): PAGE. DASH (2): what LINE's gives, and 100. BOLD (3): what DASH's gives, and LINE's";
        int[] pages = {0, 1, 48, 49};
        for (int page : pages) {
            String digits = "" + page / 10 + page % 10;
            E.of(() -> Check.withBook("i;l" + digits + "19;d" + digits + "19;b" + digits + "19"), words);
            E.answers("a LINE", x -> x.tell(0), page);
            E.answers("a DASH", x -> x.tell(1), page + 100);
            E.answers("a BOLD one", x -> x.tell(2), page + 100 + page);
            E.answers("TRACE of a LINE", x -> x.tell(0) - page + x.trace(), 1);
            E.answers("TRACE of a DASH", x -> x.tell(1) - page - 100 + x.trace(), 2 * 31 + 1);
            E.answers("TRACE of a BOLD one", x -> x.tell(2) - 2 * page - 100 + x.trace(), ((3 * 31 + 2) * 31 + 1) * 31 + 1);
        }
        // whether it is WET, and what it SEES, is nothing to its TELLING
        E.of(Edges::seven, words);
        int[] due = {10, 120, 150, 49, 198, 100, 7};
        for (int slip = 0; slip < 7; slip++) {
            int k = slip;
            E.answersLeavingFault("tell(" + k + ")", x -> x.tell(k), due[k]);
        }
    }

    private static void quoteOfNoSlip() {
        E.of(Edges::seven, "quote: UNKNOWN");
        for (int no : NO_SLIPS) {
            E.refused("quote(" + no + ")", x -> x.quote(no), UNKNOWN);
        }
        E.of(Edges::two, "quote: UNKNOWN, of two SLIPS");
        E.refused("quote(2)", x -> x.quote(2), UNKNOWN);
        E.answers("quote(1)", x -> x.quote(1), 1);
    }

    private static void quoteByBodies() {
        E.of(() -> Check.withBook(Check.SEVEN), "QUOTED by a lent body (4): its number; BOLD ones have their own (5): 20");
        int[] due = {0, 1, 20, 3, 20, 5, 6};
        for (int slip = 0; slip < 7; slip++) {
            int k = slip;
            E.answersLeavingFault("quote(" + k + ")", x -> x.quote(k), due[k]);
            E.answers("TRACE of quote(" + k + ")", x -> x.quote(k) - due[k] + x.trace(), due[k] == 20 ? 5 : 4);
        }
    }

    private static void traceWraps() {
        E.of(Edges::two, "TRACE (an int that wraps, 0 at first, becomes 31 times it and the number)");
        WorldIndex x = Check.withBook(Check.FOUR);
        long want = 0;
        boolean above = false;
        boolean below = false;
        E.due("trace() at first", x.trace(), 0);
        for (int call = 0; call < 100; call++) {
            int body = call % 2 == 0 ? 5 : 4;
            x.quote(body == 5 ? 2 : 3);
            want = want * 31 + body;
            above = above || want > MAX;
            // cut to 32 bits, by hand
            want = want & 0xFFFFFFFFL;
            want = want > MAX ? want - (1L << 32) : want;
            below = below || want < 0;
            E.due("trace() behind " + (call + 1) + " bodies", x.trace(), want);
        }
        E.due("it went above the greatest int", above ? 1 : 0, 1);
        E.due("it went below 0", below ? 1 : 0, 1);
    }

    private static void traceIsLeftByBodiesAlone() {
        E.of(Edges::seven, "bodies that leave their number in TRACE");
        int was = (2 * 31 + 1) * 31 + 5;
        E.onlyTells("trace()", x -> x.trace(), was);
        E.answers("trace() behind ask, as, ofSlip", x -> x.ask(0) + x.as(2, 1) + x.ofSlip(2, 7) - 52 + x.trace(), was);
        E.answers("trace() behind tell(7)", x -> x.tell(7) + 1 + x.trace(), was);
        E.answers("trace() behind quote(7)", x -> x.quote(7) + 1 + x.trace(), was);
    }

    // ---- as

    private static void asOfNoSlip() {
        E.of(Edges::seven, "as: UNKNOWN");
        for (int no : NO_SLIPS) {
            E.refusedOfFaults("as(" + no + ", 0)", x -> x.as(no, 0), UNKNOWN);
            E.refusedOfFaults("as(" + no + ", 3)", x -> x.as(no, 3), UNKNOWN);
        }
        E.of(Edges::two, "as: UNKNOWN, of two SLIPS");
        E.refusedOfFaults("as(2, 0)", x -> x.as(2, 0), UNKNOWN);
        E.answersAndLeavesAll("as(1, 0)", x -> x.as(1, 0), 1);
    }

    private static void asOfNoKind() {
        E.of(Edges::seven, "as: OUTSIDE");
        for (int no : new int[] {-1, 3, NONE, MIN, MAX}) {
            E.refusedOfFaults("as(0, " + no + ")", x -> x.as(0, no), OUTSIDE);
            E.refusedOfFaults("as(2, " + no + ")", x -> x.as(2, no), OUTSIDE);
        }
    }

    private static void asOfEachKind() {
        E.of(Edges::seven, "as: CAST: it is none (each is a LINE, too; a BOLD one is a DASH)");
        int[] kinds = {0, 1, 2, 0, 2, 1, 0};
        for (int slip = 0; slip < 7; slip++) {
            for (int kind = 0; kind < 3; kind++) {
                int k = slip;
                int as = kind;
                if (as <= kinds[k]) {
                    E.answersAndLeavesAll("as(" + k + ", " + as + ")", x -> x.as(k, as), 1);
                } else {
                    E.faulted("as(" + k + ", " + as + ")", x -> x.as(k, as), Edges.CAST);
                }
            }
        }
    }

    // ---- fault, many

    private static void faultAheadOfAny() {
        E.of(Edges::fresh, "fault: (0 ahead of any)");
        E.answers("fault()", x -> x.fault(), 0);
        E.answers("fault() behind calls that name none", x -> x.many(4) + x.lose(4) + 3 + x.fault(), 0);
    }

    private static void faultOfTheLatestCallThatNamesOne() {
        E.of(Edges::seven, "fault: The FAULT of the latest call that names one: 0: it came to none, or was refused");
        WorldIndex x = Edges.seven();
        E.due("put into nothing", x.put(3, 0, 0), -11);
        E.due("fault()", x.fault(), 1);
        E.due("as another kind", x.as(0, 2), -12);
        E.due("fault()", x.fault(), 2);
        E.due("copy of itself", x.copy(1, 0, 1, 0, 11), -13);
        E.due("fault()", x.fault(), 3);
        E.due("a length below 0", x.sheet(1, 1, -1), -14);
        E.due("fault()", x.fault(), 4);
        E.due("an answer", x.as(0, 0), 1);
        E.due("fault()", x.fault(), 0);
        E.due("a length below 0", x.book(1, 1, 0, -1), -14);
        E.due("a refusal", x.as(7, 0), UNKNOWN);
        E.due("fault()", x.fault(), 0);
        E.due("a cell of another LANE", x.cell(1, 0, 0), Edges.LOST);
        E.due("fault()", x.fault(), 2);
        E.due("a TEXT that is not taken", x.book(1, 1, 0, 1), -100);
        E.due("fault()", x.fault(), 0);
    }

    /** Each of the calls that name no FAULT, answered and refused. */
    private static void faultIsLeftByOthers() {
        E.of(Edges::seven, "fault: of the latest call that names one (others leave it)");
        E.answersLeavingFault("want(0, 1)", x -> x.want(0, 1), 3);
        E.answersLeavingFault("see(0, 1)", x -> x.see(0, 1), 5);
        E.answersLeavingFault("ask(0)", x -> x.ask(0), 1);
        E.answersLeavingFault("wet(0)", x -> x.wet(0), 3);
        E.answersLeavingFault("dry(2)", x -> x.dry(2), 1);
        E.answersLeavingFault("reading(0, 1)", x -> x.reading(0, 1), 3);
        E.answersLeavingFault("back(1)", x -> x.back(1), 2);
        E.answersLeavingFault("lose(1)", x -> x.lose(1), 1);
        E.answersLeavingFault("lose(3)", x -> x.lose(3), 0);
        E.answersLeavingFault("tell(2)", x -> x.tell(2), 150);
        E.answersLeavingFault("quote(2)", x -> x.quote(2), 20);
        E.onlyTells("ofSlip(0, 0)", x -> x.ofSlip(0, 0), 0);
        E.onlyTells("leads(1)", x -> x.leads(1), 33);
        E.onlyTells("rings(0)", x -> x.rings(0), 16);
        E.onlyTells("cuts()", x -> x.cuts(), 16);
        E.onlyTells("tree(3)", x -> x.tree(3), 1);
        E.onlyTells("pages(3, 1)", x -> x.pages(3, 1), 49);
        E.onlyTells("kinds(3)", x -> x.kinds(3), 1);
        E.onlyTells("seen(3)", x -> x.seen(3), 128);
        E.onlyTells("odds(49, 0)", x -> x.odds(49, 0), 2);
        E.onlyTells("trace()", x -> x.trace(), (2 * 31 + 1) * 31 + 5);
        E.onlyTells("many(0)", x -> x.many(0), 7);
        E.refused("wet(2)", x -> x.wet(2), STATE);
    }

    private static void manyOfNoSuchWhat() {
        E.of(Edges::seven, "many: 0 SLIPS, 1 questions (by ask()), 2 that are WET, 3 READINGS. OUTSIDE");
        for (int no : new int[] {-1, 4, NONE, MIN, MAX}) {
            E.refused("many(" + no + ")", x -> x.many(no), OUTSIDE);
        }
        int[] due = {7, 3, 2, 3};
        for (int what = 0; what < 4; what++) {
            int w = what;
            E.onlyTells("many(" + w + ")", x -> x.many(w), due[w]);
        }
        E.of(Edges::read, "many: of 8 READINGS");
        E.onlyTells("many(3)", x -> x.many(3), 8);
        E.of(Edges::two, "many: of two SLIPS that nothing happened to");
        int[] dueOfTwo = {2, 0, 0, 0};
        for (int what = 0; what < 4; what++) {
            int w = what;
            E.onlyTells("many(" + w + ")", x -> x.many(w), dueOfTwo[w]);
        }
    }

    private static void manyWithoutBook() {
        E.of(Edges::bookless, "many: (0 all without a BOOK)");
        for (int what = 0; what < 4; what++) {
            int w = what;
            E.onlyTells("many(" + w + ")", x -> x.many(w), 0);
            E.answers("many(" + w + ") behind refused calls", x -> behindRefused(x).many(w), 0);
        }
        E.refused("many(-1)", x -> x.many(-1), OUTSIDE);
        E.refused("many(4)", x -> x.many(4), OUTSIDE);
    }

    private static WorldIndex behindRefused(WorldIndex x) {
        x.ask(0);
        x.wet(0);
        x.reading(0, 0);
        x.book(0, 0, 0, 60);
        return x;
    }
}
