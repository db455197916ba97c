/** The edges that the document names of promises 11 to 14, and of part 3 of its terms; a test for each sentence. */
public final class RingEdgesTest {
    private static final Edges E = new Edges();
    private static final int UNKNOWN = Edges.UNKNOWN, OUTSIDE = Edges.OUTSIDE, STATE = Edges.STATE, NONE = Edges.NONE;
    private static final int MIN = Edges.MIN, MAX = Edges.MAX;

    public static void main(String[] args) {
        ringsOfNoSuchWhat();
        ringsWithoutBook();
        ringsFromWhichOneComesBack();
        ringsWetOrNot();
        ringOfOneAndOfAll();
        cutsWithoutBook();
        cutsTheFewest();
        cutsOfSeveralTheLeast();
        cutsWetOrNot();
        treeOfNoSuchNumber();
        treeWithoutBook();
        treeOfSlipsThatAreNotThere();
        treeOfSlipsThatAreNotWet();
        treeOfOneAndOfNone();
        treeInTheOrderOfNumbers();
        treeOfSeveralTheLeastRoot();
        treeOfSeveralTheLeastAheadThenBehind();
        treeDepths();
        treeCostOfTheMost();
        ordersOfNoSheet();
        ordersOfNoLane();
        ordersOfTooManyTwos();
        ordersOfNoSuchPlace();
        ordersCast();
        ordersOfNothing();
        ordersBeyondTheCells();
        ordersWithoutBook();
        ordersRefusedInTheirOrder();
        ordersOfNoSlip();
        ordersTwoByTwo();
        ordersOfNoTwos();
        ordersThatCantBe();
        ordersTheFirstOfThem();
        ordersOfAllSlips();
        ordersOneBehindAnother();
        ordersByLanes();
        E.end();
    }

    // ---- rings, cuts

    private static void ringsOfNoSuchWhat() {
        E.of(Edges::seven, "rings: what 0, 1. OUTSIDE");
        for (int no : new int[] {-1, 2, MIN, MAX}) {
            E.refused("rings(" + no + ")", x -> x.rings(no), OUTSIDE);
        }
        E.onlyTells("rings(0)", x -> x.rings(0), 16);
        E.onlyTells("rings(1)", x -> x.rings(1), 1);
    }

    private static void ringsWithoutBook() {
        E.of(Edges::bookless, "rings: OUTSIDE; STATE: there is no BOOK");
        E.refused("rings(0)", x -> x.rings(0), STATE);
        E.refused("rings(1)", x -> x.rings(1), STATE);
        E.refused("rings(2)", x -> x.rings(2), OUTSIDE);
        E.refused("rings(-1)", x -> x.rings(-1), OUTSIDE);
    }

    private static void ring(String text, int in, int howMany, int cuts) {
        E.answers("rings(0) of " + text, x -> withBook(x, text).rings(0), in);
        E.answers("rings(1) of " + text, x -> withBook(x, text).rings(1), howMany);
        E.answers("cuts() of " + text, x -> withBook(x, text).cuts(), cuts);
    }

    private static WorldIndex withBook(WorldIndex x, String text) {
        Check.book(x, text);
        return x;
    }

    private static void ringsFromWhichOneComesBack() {
        E.of(Edges::fresh, "RINGS: all SLIPS from which one comes back to them by SEEING on");
        ring("i;l0009;l0009", 0, 0, 0);
        ring("i;l0001;l0009", 0, 0, 0);
        ring("i;l0000;l0009", 1, 1, 1);
        ring("i;l0009;l0001", 2, 1, 2);
        ring("i;l0001;l0000", 3, 1, 1);
        // those that only lead to a RING are in none
        ring("i;l0001;l0001;l0000", 2, 1, 2);
        ring("i;l0001;l0002;l0001;l0000", 6, 1, 2);
        ring("i;l0001;l0002;l0003;l0004;l0005;l0006;l0005", 96, 1, 32);
        ring("i;l0006;l0000;l0001;l0002;l0003;l0004;l0009", 0, 0, 0);
    }

    private static void ringsWetOrNot() {
        E.of(() -> wetAll("i;l0001;l0000;l0002;l0002"), "RINGS: (WET or not)");
        E.onlyTells("rings(0)", x -> x.rings(0), 7);
        E.onlyTells("rings(1)", x -> x.rings(1), 2);
        E.of(() -> Check.withBook("i;l0001;l0000;l0002;l0002"), "RINGS: (WET or not)");
        E.onlyTells("rings(0)", x -> x.rings(0), 7);
        E.onlyTells("rings(1)", x -> x.rings(1), 2);
    }

    private static WorldIndex wetAll(String text) {
        WorldIndex x = Check.withBook(text);
        int slips = x.many(0);
        for (int k = 0; k < slips; k++) {
            x.wet(k);
        }
        return x;
    }

    private static void ringOfOneAndOfAll() {
        E.of(Edges::fresh, "rings: all who are in one, as a set (what 0), how many RINGS (1)");
        ring("i;l0000;l0001;l0002;l0003;l0004;l0005;l0006", 127, 7, 127);
        ring("i;l0001;l0002;l0003;l0004;l0005;l0006;l0000", 127, 1, 1);
        ring("i;l0001;l0000;l0003;l0002;l0005;l0004;l0009", 63, 3, 21);
        ring("i;l0001;l0000;l0003;l0002;l0005;l0004;l0006", 127, 4, 85);
    }

    private static void cutsWithoutBook() {
        E.of(Edges::bookless, "cuts: STATE: there is no BOOK");
        E.refused("cuts()", x -> x.cuts(), STATE);
        E.of(Edges::seven, "cuts: as a set");
        E.onlyTells("cuts()", x -> x.cuts(), 16);
        E.of(Edges::two, "cuts: there is no RING");
        E.onlyTells("cuts()", x -> x.cuts(), 0);
    }

    private static void cutsTheFewest() {
        E.of(Edges::fresh, "CUTS: the fewest SLIPS that are to SEE none, so that there is no RING");
        // 0 leads to the RING, though cutting 0 would be the least set
        ring("i;l0002;l0002;l0003;l0002", 12, 1, 4);
        ring("i;l0003;l0000;l0006;l0009;l0005;l0004;l0002", 4 + 64 + 16 + 32, 2, 4 + 16);
    }

    private static void cutsOfSeveralTheLeast() {
        E.of(Edges::fresh, "CUTS: as a set: of several the least");
        ring("i;l0009;l0006;l0009;l0009;l0009;l0001;l0005", 98, 1, 2);
        ring("i;l0009;l0009;l0009;l0009;l0009;l0006;l0005", 96, 1, 32);
        ring("i;l0006;l0005;l0004;l0009;l0002;l0001;l0000", 119, 3, 7);
    }

    private static void cutsWetOrNot() {
        E.of(() -> wetAll("i;l0009;l0002;l0001"), "CUTS: (of RINGS, WET or not)");
        E.onlyTells("cuts()", x -> x.cuts(), 2);
    }

    // ---- tree

    private static void treeOfNoSuchNumber() {
        E.of(Edges::seven, "tree: COST (k -1), DEPTH of SLIP k (0 .. 6). OUTSIDE");
        for (int no : new int[] {-2, 7, NONE, MIN, MAX}) {
            E.refused("tree(" + no + ")", x -> x.tree(no), OUTSIDE);
        }
        // 0, 1, 3, 4, 5 are dry, ASKED for 3, 1, 5, 0, 9 times
        E.onlyTells("tree(-1)", x -> x.tree(-1), 3 * 2 + 3 + 5 + 9 * 2);
        E.onlyTells("tree(0)", x -> x.tree(0), 2);
        E.onlyTells("tree(1)", x -> x.tree(1), 3);
        E.onlyTells("tree(2)", x -> x.tree(2), NONE);
        E.onlyTells("tree(3)", x -> x.tree(3), 1);
        E.onlyTells("tree(4)", x -> x.tree(4), 3);
        E.onlyTells("tree(5)", x -> x.tree(5), 2);
        E.onlyTells("tree(6)", x -> x.tree(6), NONE);
    }

    private static void treeWithoutBook() {
        E.of(Edges::bookless, "tree: OUTSIDE; STATE: there is no BOOK");
        for (int k = -1; k < 7; k++) {
            int slip = k;
            E.refused("tree(" + k + ")", x -> x.tree(slip), STATE);
        }
        E.refused("tree(-2)", x -> x.tree(-2), OUTSIDE);
        E.refused("tree(7)", x -> x.tree(7), OUTSIDE);
    }

    private static void treeOfSlipsThatAreNotThere() {
        E.of(Edges::two, "tree: NONE: it is WET, there is no such SLIP");
        E.onlyTells("tree(0)", x -> x.tree(0), 2);
        E.onlyTells("tree(1)", x -> x.tree(1), 1);
        for (int k = 2; k < 7; k++) {
            int slip = k;
            E.onlyTells("tree(" + k + ")", x -> x.tree(slip), NONE);
        }
        E.answers("tree(0), WET", x -> x.wet(0) - 1 + x.tree(0), NONE);
        E.answers("tree(1), 0 is WET", x -> x.wet(0) - 1 + x.tree(1), 1);
    }

    private static void tree(String text, int wetSet, int cost, int... depths) {
        Edges.Room room = () -> wetSome(text, wetSet);
        E.of(room, "TREE of " + text + ", WET " + wetSet);
        E.onlyTells("COST", x -> x.tree(-1), cost);
        for (int k = 0; k < 7; k++) {
            int slip = k;
            E.onlyTells("DEPTH of " + k, x -> x.tree(slip), k < depths.length ? depths[k] : NONE);
        }
    }

    private static WorldIndex wetSome(String text, int wetSet) {
        WorldIndex x = Check.withBook(text);
        for (int k = 0; k < 7; k++) {
            if ((wetSet >> k & 1) == 1) {
                x.wet(k);
            }
        }
        return x;
    }

    /** All SLIPS that are not WET: first, last, one between, those ASKED for most. */
    private static void treeOfSlipsThatAreNotWet() {
        String text = "i;l0010;l0020;l0030;l0040";
        tree(text, 0, 4 * 2 + 3 + 2 * 2 + 3, 3, 2, 1, 2);
        tree(text, 1, 2 * 2 + 3 + 4 * 2, NONE, 2, 1, 2);
        tree(text, 8, 2 + 2 + 6, 2, 1, 2, NONE);
        tree(text, 4, 4 + 2 * 2 + 3, 3, 2, NONE, 1);
        tree(text, 2, 2 + 3 + 8, 2, NONE, 1, 2);
    }

    private static void treeOfOneAndOfNone() {
        tree("i;l0030;l0070", 2, 3, 1, NONE);
        tree("i;l0030;l0070", 1, 7, NONE, 1);
        tree("i;l0030;l0070", 3, 0, NONE, NONE);
        tree("i;l0030;l0070", 0, 13, 2, 1);
        tree("i;l0090;l0090;l0090;l0090;l0090;l0090;l0090", 127, 0);
        tree("i;l0090;l0090;l0090;l0090;l0090;l0090;l0090", 63, 9, NONE, NONE, NONE, NONE, NONE, NONE, 1);
    }

    /** Not in the order of how often they are ASKED for, nor of their PAGES. */
    private static void treeInTheOrderOfNumbers() {
        tree("i;l4910;l0190;l3010;l0090", 0, 9 + 2 + 18 + 3, 2, 1, 3, 2);
        tree("i;l0090;l0000;l0090", 0, 27, 1, 3, 2);
        tree("i;l0090;l0010;l0090", 0, 9 + 18 + 3, 1, 3, 2);
    }

    private static void treeOfSeveralTheLeastRoot() {
        tree("i;l0010;l0010", 0, 3, 1, 2);
        tree("i;l0000;l0000", 0, 0, 1, 2);
        tree("i;l0010;l0010;l0010;l0010", 0, 8, 2, 1, 2, 3);
        tree("i;l0090;l0090", 0, 27, 1, 2);
        // 1 more at the end makes it the one
        tree("i;l0010;l0020", 0, 4, 2, 1);
    }

    private static void treeOfSeveralTheLeastAheadThenBehind() {
        // the root is 2; ahead of it 0 and 1 cost the same either way, and 3 and 4 behind it
        tree("i;l0010;l0010;l0090;l0010;l0010", 0, 9 + 3 + 2 + 3 + 2, 2, 3, 1, 2, 3);
        tree("i;l0000;l0000;l0090;l0000;l0000", 0, 9, 2, 3, 1, 2, 3);
        tree("i;l0000;l0000;l0000;l0000;l0000;l0000;l0090", 0, 9, 2, 3, 4, 5, 6, 7, 1);
        tree("i;l0090;l0000;l0000;l0000;l0000;l0000;l0000", 0, 9, 1, 2, 3, 4, 5, 6, 7);
    }

    private static void treeDepths() {
        tree("i;l0000;l0000;l0000;l0000;l0000;l0000;l0000", 0, 0, 1, 2, 3, 4, 5, 6, 7);
        tree("i;l0010;l0010;l0010;l0010;l0010;l0010;l0010", 0, 17, 3, 2, 3, 1, 3, 2, 3);
        tree("i;l0000;l0000;l0000;l0000;l0000;l0000;l0000", 21, 0, NONE, 1, NONE, 2, NONE, 3, 4);
    }

    private static void treeCostOfTheMost() {
        tree("i;l0090;l0090;l0090;l0090;l0090;l0090;l0090", 0, 153, 3, 2, 3, 1, 3, 2, 3);
    }

    // ---- orders: what is refused

    /** Seven SLIPS that much happened to; 60 ints on SHEET 3, that tell 0 ahead of 1, thirty times. */
    private static WorldIndex withThree() {
        WorldIndex x = Edges.seven();
        x.sheet(3, 2, 60);
        for (int i = 1; i < 60; i += 2) {
            x.put(3, i, 1);
        }
        return x;
    }

    private static void ordersOfNoSheet() {
        E.of(Edges::seven, "orders: UNKNOWN: SHEET");
        for (int no : new int[] {-1, 4, MIN, MAX}) {
            E.refusedOfFaults("orders(" + no + ", ..)", x -> x.orders(no, 0, 0, 0, 0), UNKNOWN);
            E.refusedOfFaults("orders(" + no + ", 3, -1, 11, 7)", x -> x.orders(no, 3, -1, 11, 7), UNKNOWN);
        }
        E.answersAndLeavesAll("orders(0, ..)", x -> x.orders(0, 0, 0, 0, -1), 5040);
        E.of(RingEdgesTest::withThree, "orders: of SHEET 3");
        E.answersAndLeavesAll("orders(3, ..)", x -> x.orders(3, 2, 0, 1, -1), 2520);
    }

    private static void ordersOfNoLane() {
        E.of(Edges::seven, "orders: OUTSIDE: lane");
        for (int no : new int[] {-1, 3, MIN, MAX}) {
            E.refusedOfFaults("orders(1, " + no + ", ..)", x -> x.orders(1, no, 0, 0, 0), OUTSIDE);
            E.refusedOfFaults("orders(3, " + no + ", ..)", x -> x.orders(3, no, 0, 0, 0), OUTSIDE);
        }
    }

    private static void ordersOfTooManyTwos() {
        E.of(RingEdgesTest::withThree, "orders: OUTSIDE: n (0 .. 10)");
        for (int no : new int[] {-1, 11, 30, MIN, MAX, 1 << 30}) {
            E.refusedOfFaults("orders(3, 2, 0, " + no + ", -1)", x -> x.orders(3, 2, 0, no, -1), OUTSIDE);
        }
        for (int n : new int[] {0, 1, 9, 10}) {
            E.answersAndLeavesAll("orders(3, 2, 0, " + n + ", -1)", x -> x.orders(3, 2, 0, n, -1), n == 0 ? 5040 : 2520);
        }
    }

    private static void ordersOfNoSuchPlace() {
        E.of(RingEdgesTest::withThree, "orders: OUTSIDE: k (how many: -1; place 0 .. 6)");
        for (int no : new int[] {-2, 7, NONE, MIN, MAX}) {
            E.refusedOfFaults("orders(3, 2, 0, 1, " + no + ")", x -> x.orders(3, 2, 0, 1, no), OUTSIDE);
        }
        for (int place = 0; place < 7; place++) {
            int k = place;
            E.answersAndLeavesAll("orders(3, 2, 0, 1, " + k + ")", x -> x.orders(3, 2, 0, 1, k), k);
        }
        E.of(() -> ofTwo(1, 0), "orders: NONE: there is no such place");
        E.answersAndLeavesAll("place 0", x -> x.orders(1, 0, 0, 1, 0), 1);
        E.answersAndLeavesAll("place 1", x -> x.orders(1, 0, 0, 1, 1), 0);
        for (int place = 2; place < 7; place++) {
            int k = place;
            E.answersAndLeavesAll("place " + k, x -> x.orders(1, 0, 0, 1, k), NONE);
        }
        E.refusedOfFaults("place 7", x -> x.orders(1, 0, 0, 1, 7), OUTSIDE);
    }

    private static WorldIndex ofTwo(int... twos) {
        WorldIndex x = Edges.two();
        Check.fill(x, 1, 0, twos);
        return x;
    }

    private static void ordersCast() {
        E.of(Edges::seven, "orders: FAULTS CAST");
        for (int sheet = 0; sheet < 3; sheet++) {
            for (int lane = 0; lane < 3; lane++) {
                int k = sheet;
                int l = lane;
                if (k != l) {
                    E.faulted("orders(" + k + ", " + l + ", 0, 0, 0)", x -> x.orders(k, l, 0, 0, 0), Edges.CAST);
                    E.faulted("orders(" + k + ", " + l + ", -1, 9, 0)", x -> x.orders(k, l, -1, 9, 0), Edges.CAST);
                }
            }
        }
    }

    private static void ordersOfNothing() {
        E.of(Edges::seven, "orders: FAULTS NULL");
        for (int lane = 0; lane < 3; lane++) {
            int l = lane;
            E.faulted("orders(3, " + l + ", 0, 0, 0)", x -> x.orders(3, l, 0, 0, 0), Edges.NULL);
            E.faulted("orders(3, " + l + ", -1, 10, 0)", x -> x.orders(3, l, -1, 10, 0), Edges.NULL);
        }
    }

    private static void ordersBeyondTheCells() {
        E.of(RingEdgesTest::withThree, "orders: FAULTS INDEX (2 n cells from i on)");
        int[][] beyond = {{-1, 0}, {-1, 1}, {61, 0}, {60, 1}, {59, 1}, {57, 2}, {41, 10}, {60, 10}, {MIN, 0}, {MIN, 10},
            {MAX, 0}, {MAX, 1}, {MAX, 10}, {MAX - 19, 10}};
        for (int[] b : beyond) {
            E.faulted("orders(3, 2, " + b[0] + ", " + b[1] + ", 0)", x -> x.orders(3, 2, b[0], b[1], 0), Edges.INDEX);
        }
        int[][] inside = {{0, 0}, {60, 0}, {58, 1}, {56, 2}, {40, 10}, {0, 10}};
        for (int[] b : inside) {
            E.answersAndLeavesAll("orders(3, 2, " + b[0] + ", " + b[1] + ", -1)",
                x -> x.orders(3, 2, b[0], b[1], -1), b[1] == 0 ? 5040 : 2520);
        }
        E.of(Edges::seven, "orders: FAULTS INDEX (an empty row)");
        E.answersAndLeavesAll("orders(2, 2, 0, 0, -1)", x -> x.orders(2, 2, 0, 0, -1), 5040);
        E.faulted("orders(2, 2, 1, 0, -1)", x -> x.orders(2, 2, 1, 0, -1), Edges.INDEX);
        E.faulted("orders(2, 2, 0, 1, -1)", x -> x.orders(2, 2, 0, 1, -1), Edges.INDEX);
    }

    private static void ordersWithoutBook() {
        E.of(Edges::bookless, "orders: STATE: there is no BOOK");
        E.refusedOfFaults("orders(1, 1, 0, 0, -1)", x -> x.orders(1, 1, 0, 0, -1), STATE);
        E.refusedOfFaults("orders(1, 1, 0, 5, 6)", x -> x.orders(1, 1, 0, 5, 6), STATE);
    }

    private static void ordersRefusedInTheirOrder() {
        E.of(Edges::bookless, "Of a call the first that is come to, in the order told (orders)");
        E.refusedOfFaults("UNKNOWN ahead of OUTSIDE", x -> x.orders(4, 3, -1, 11, 7), UNKNOWN);
        E.refusedOfFaults("OUTSIDE: lane, ahead of NULL", x -> x.orders(3, 3, -1, 1, 0), OUTSIDE);
        E.refusedOfFaults("OUTSIDE: n, ahead of CAST", x -> x.orders(1, 0, -1, 11, 0), OUTSIDE);
        E.refusedOfFaults("OUTSIDE: n, is no SIZE", x -> x.orders(1, 1, 0, -1, 0), OUTSIDE);
        E.refusedOfFaults("OUTSIDE: k, ahead of INDEX", x -> x.orders(1, 1, -1, 1, 7), OUTSIDE);
        E.faulted("CAST ahead of INDEX", x -> x.orders(1, 0, -1, 1, 0), Edges.CAST);
        E.faulted("NULL ahead of INDEX", x -> x.orders(3, 0, -1, 1, 0), Edges.NULL);
        E.faulted("CAST ahead of STATE", x -> x.orders(1, 0, 0, 1, 0), Edges.CAST);
        E.faulted("NULL ahead of STATE", x -> x.orders(3, 0, 0, 1, 0), Edges.NULL);
        E.faulted("INDEX ahead of STATE", x -> x.orders(1, 1, 9, 1, 0), Edges.INDEX);
        E.refusedOfFaults("STATE ahead of UNKNOWN: SLIP", x -> x.orders(1, 1, 0, 1, 0), STATE);
        E.of(Edges::seven, "Of a call the first that is come to, in the order told (orders, twos)");
        E.faulted("INDEX ahead of UNKNOWN: SLIP", x -> x.orders(1, 1, 0, 6, 0), Edges.INDEX);
        E.refusedOfFaults("UNKNOWN: SLIP", x -> x.orders(1, 1, 0, 1, 0), UNKNOWN);
    }

    /** Seven SLIPS that nothing happened to; twos on ints of SHEET 1. */
    private static Edges.Room told(int... twos) {
        return () -> {
            WorldIndex x = Check.withBook(Check.SEVEN);
            Check.fill(x, 1, 2, twos);
            return x;
        };
    }

    private static void refusedTwos(int... twos) {
        E.of(told(twos), "orders: two by two UNKNOWN: either is no SLIP");
        for (int k : new int[] {-1, 0, 6}) {
            E.refusedOfFaults("orders of " + twos[0] + ", " + twos[1] + " ..",
                x -> x.orders(1, 2, 0, twos.length / 2, k), UNKNOWN);
        }
    }

    private static void ordersOfNoSlip() {
        for (int no : new int[] {-1, 7, NONE, 256, MIN, MAX}) {
            refusedTwos(no, 0);
            refusedTwos(0, no);
            refusedTwos(no, no);
        }
        E.of(told(6, 0), "orders: 6 of seven is a SLIP");
        E.answersAndLeavesAll("6 ahead of 0", x -> x.orders(1, 2, 0, 1, -1), 2520);
        E.of(() -> ofTwo(0, 2), "orders: UNKNOWN, of two SLIPS");
        E.refusedOfFaults("0 ahead of 2", x -> x.orders(1, 0, 0, 1, -1), UNKNOWN);
        E.of(() -> ofTwo(2, 0), "orders: UNKNOWN, of two SLIPS");
        E.refusedOfFaults("2 ahead of 0", x -> x.orders(1, 0, 0, 1, -1), UNKNOWN);
    }

    private static void ordersTwoByTwo() {
        refusedTwos(0, 1, 0, 7);
        refusedTwos(0, 1, 7, 0);
        refusedTwos(0, 1, 1, 0, 7, 0);
        refusedTwos(3, 3, 3, -1);
        refusedTwos(0, 1, 0, 1, 0, 1, 0, 1, 0, 1, 0, 1, 0, 1, 0, 1, 0, 1, 0, 7);
        // what is behind the last two is not looked at, nor what is ahead of i
        E.of(told(7, 0, 1, 7), "orders: n twos from i on");
        E.answersAndLeavesAll("cells 1, 2", x -> x.orders(1, 2, 1, 1, -1), 2520);
        E.refusedOfFaults("cells 0, 1", x -> x.orders(1, 2, 0, 1, -1), UNKNOWN);
        E.refusedOfFaults("cells 2, 3", x -> x.orders(1, 2, 2, 1, -1), UNKNOWN);
    }

    // ---- orders that there are

    private static void orders(String words, String text, int[] twos, int howMany, int... first) {
        E.of(() -> withTwos(text, twos), words);
        E.answersAndLeavesAll("how many", x -> x.orders(1, 0, 0, twos.length / 2, -1), howMany);
        for (int place = 0; place < 7; place++) {
            int k = place;
            int due = k < first.length ? first[k] : NONE;
            E.answersAndLeavesAll("place " + k, x -> x.orders(1, 0, 0, twos.length / 2, k), due);
        }
    }

    private static WorldIndex withTwos(String text, int... twos) {
        WorldIndex x = Check.withBook(text);
        Check.fill(x, 1, 0, twos);
        return x;
    }

    private static int[] twos(int... twos) {
        return twos;
    }

    private static void ordersOfNoTwos() {
        String words = "ORDERS by twos told: rows of all SLIPS (by none told)";
        int[] howMany = {2, 6, 24, 120, 720, 5040};
        StringBuilder text = new StringBuilder("i;l0000");
        for (int n = 2; n <= 7; n++) {
            text.append(";l0000");
            int[] first = new int[n];
            for (int k = 0; k < n; k++) {
                first[k] = k;
            }
            orders(words, text.toString(), twos(), howMany[n - 2], first);
        }
    }

    private static void ordersThatCantBe() {
        String words = "orders: NONE: no such order (a SLIP that is ahead of another one)";
        orders(words, Check.FOUR, twos(0, 0), 0);
        orders(words, Check.FOUR, twos(3, 3), 0);
        orders(words, Check.FOUR, twos(0, 1, 1, 0), 0);
        orders(words, Check.FOUR, twos(0, 1, 1, 2, 2, 3, 3, 0), 0);
        orders(words, Check.SEVEN, twos(0, 1, 1, 2, 2, 3, 3, 4, 4, 5, 5, 6, 6, 0), 0);
        // all but the last of these may be
        orders(words, Check.SEVEN, twos(0, 1, 1, 2, 2, 3, 3, 4, 4, 5, 5, 6), 1, 0, 1, 2, 3, 4, 5, 6);
    }

    private static void ordersTheFirstOfThem() {
        String words = "orders: the SLIP in place k of the first of them, as rows";
        orders(words, Check.FOUR, twos(3, 0), 12, 1, 2, 3, 0);
        orders(words, Check.FOUR, twos(0, 3), 12, 0, 1, 2, 3);
        orders(words, Check.FOUR, twos(3, 2, 2, 1, 1, 0), 1, 3, 2, 1, 0);
        orders(words, Check.FOUR, twos(3, 1, 2, 0), 6, 2, 0, 3, 1);
        orders(words, Check.FOUR, twos(3, 1, 3, 1, 3, 1, 3, 1, 3, 1, 3, 1, 3, 1, 3, 1, 3, 1, 3, 1), 12, 0, 2, 3, 1);
        orders(words, Check.SEVEN, twos(6, 5, 5, 4, 4, 3, 3, 2, 2, 1, 1, 0), 1, 6, 5, 4, 3, 2, 1, 0);
        orders(words, Check.SEVEN, twos(6, 0), 2520, 1, 2, 3, 4, 5, 6, 0);
    }

    private static void ordersOfAllSlips() {
        E.of(() -> wetTwos(), "ORDERS: rows of all SLIPS in which all that is so (WET or not)");
        E.answersAndLeavesAll("how many", x -> x.orders(1, 0, 0, 1, -1), 12);
        E.answersAndLeavesAll("place 3", x -> x.orders(1, 0, 0, 1, 3), 0);
    }

    private static WorldIndex wetTwos() {
        WorldIndex x = wetAll(Check.FOUR);
        Check.fill(x, 1, 0, 3, 0);
        return x;
    }

    private static void ordersOneBehindAnother() {
        E.of(Edges::two, "ORDERS by twos told (by those of this call alone)");
        for (int k = 0; k < 7; k++) {
            WorldIndex x = withTwos(Check.SEVEN, k, k);
            E.due(k + " ahead of itself", x.orders(1, 0, 0, 1, -1), 0);
            E.due("none told behind it", x.orders(1, 0, 0, 0, -1), 5040);
            WorldIndex y = withTwos(Check.SEVEN, k, k, 7, 0);
            E.due("refused at its second two", y.orders(1, 0, 0, 2, -1), UNKNOWN);
            E.due("none told behind it", y.orders(1, 0, 0, 0, 6), 6);
        }
    }

    private static void ordersByLanes() {
        String words = "what comes to a cell of it is cut to its LANE (of ORDERS)";
        for (int lane = 0; lane < 3; lane++) {
            int l = lane;
            E.of(() -> cutTwo(l, 256), words);
            E.answersWithoutFault("256, lane " + l, x -> x.orders(1, l, 0, 1, -1), l == 0 ? 12 : UNKNOWN);
            E.of(() -> cutTwo(l, 65536), words);
            E.answersWithoutFault("65536, lane " + l, x -> x.orders(1, l, 0, 1, -1), l < 2 ? 12 : UNKNOWN);
        }
    }

    private static WorldIndex cutTwo(int lane, int first) {
        WorldIndex x = Check.withBook(Check.FOUR);
        Check.fill(x, 1, lane, first, 1);
        return x;
    }
}
