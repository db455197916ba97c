/** Promises 11 to 14: rings, cuts, tree, orders. */
public final class RingsTreesOrdersTest {
    private static final Check C = new Check();

    public static void main(String[] args) {
        rings();
        ringsRefusals();
        trees();
        treeOfWet();
        treeRefusals();
        orders();
        ordersOneBehindAnother();
        ordersByLanes();
        ordersRefusals();
        C.end();
    }

    private static void ring(String text, int in, int howMany, int cuts) {
        WorldIndex x = Check.withBook(text);
        C.due("rings(0) of " + text, x.rings(0), in);
        C.due("rings(1) of " + text, x.rings(1), howMany);
        C.due("cuts() of " + text, x.cuts(), cuts);
        for (int k = 0; k < x.many(0); k++) {
            x.wet(k);
        }
        C.due("rings(0), WET, of " + text, x.rings(0), in);
        C.due("rings(1), WET, of " + text, x.rings(1), howMany);
        C.due("cuts(), WET, of " + text, x.cuts(), cuts);
    }

    private static void rings() {
        ring(Check.SEVEN, 0, 0, 0);
        ring("i;l0000;l0001", 3, 2, 3);
        ring("i;l0001;l0000", 3, 1, 1);
        ring("i;l0001;l0001", 2, 1, 2);
        // 0 - 3 - 1 - 6 - 3: 3, 1, 6 are a RING that 0 leads to; 2 - 5 - 2; 4 none
        ring("i;l0003;l0006;l0005;l0001;l0009;l0002;l0003", 2 + 4 + 8 + 32 + 64, 2, 2 + 4);
        ring("i;l0001;l0002;l0003;l0004;l0005;l0006;l0000", 127, 1, 1);
        ring("i;l0006;l0000;l0001;l0002;l0003;l0004;l0005", 127, 1, 1);
        ring("i;l0000;l0001;l0002;l0003;l0004;l0005;l0006", 127, 7, 127);
        ring("i;l0001;l0002;l0003;l0004;l0005;l0006;l0006", 64, 1, 64);
        ring("i;l0009;l0000;l0001;l0002;l0003;l0006;l0005", 96, 1, 32);
    }

    private static void ringsRefusals() {
        WorldIndex x = new WorldIndex();
        C.due("rings(2)", x.rings(2), -2);
        C.due("rings(-1)", x.rings(-1), -2);
        C.due("rings(0)", x.rings(0), -3);
        C.due("rings(1)", x.rings(1), -3);
        C.due("cuts()", x.cuts(), -3);
        Check.book(x, Check.FOUR);
        C.due("rings(2)", x.rings(2), -2);
        C.due("rings(-1)", x.rings(-1), -2);
    }

    private static void tree(String text, int cost, int... depths) {
        WorldIndex x = Check.withBook(text);
        C.due("COST of " + text, x.tree(-1), cost);
        for (int k = 0; k < 7; k++) {
            C.due("DEPTH of " + k + " of " + text, x.tree(k), k < depths.length ? depths[k] : -9);
        }
    }

    private static void trees() {
        // alike by cost: the least root
        tree("i;l0010;l0010", 3, 1, 2);
        tree("i;l0010;l0010;l0010", 5, 2, 1, 2);
        tree(Check.FOUR, 8, 2, 1, 2, 3);
        tree("i;l0010;l0010;l0010;l0010;l0010;l0010", 14, 2, 3, 1, 3, 2, 3);
        tree("i;l0010;l0010;l0010;l0010;l0010;l0010;l0010", 17, 3, 2, 3, 1, 3, 2, 3);
        // nothing is ASKED for: all trees cost nothing, the least roots make a chain
        tree("i;l0000;l0000;l0000;l0000;l0000;l0000;l0000", 0, 1, 2, 3, 4, 5, 6, 7);
        // one that is ASKED for is the root; those ahead of it and behind it hang by their least
        tree("i;l0000;l0000;l0000;l0090;l0000;l0000;l0000", 9, 2, 3, 4, 1, 2, 3, 4);
        tree("i;l0010;l0090", 11, 2, 1);
        tree("i;l0090;l0010", 11, 1, 2);
        tree("i;l0020;l0010;l0020", 9, 1, 3, 2);
    }

    private static void treeOfWet() {
        WorldIndex x = Check.withBook("i;l0010;l0090;l0010;l0010");
        C.due("COST", x.tree(-1), 9 + 2 + 2 + 3);
        C.due("DEPTH of 3", x.tree(3), 3);
        x.wet(1);
        C.due("COST without 1", x.tree(-1), 5);
        C.due("DEPTH of 0", x.tree(0), 2);
        C.due("DEPTH of 1", x.tree(1), -9);
        C.due("DEPTH of 2", x.tree(2), 1);
        C.due("DEPTH of 3", x.tree(3), 2);
        x.wet(0);
        x.wet(3);
        C.due("COST of 2 alone", x.tree(-1), 1);
        C.due("DEPTH of 2 alone", x.tree(2), 1);
        x.wet(2);
        C.due("COST of none", x.tree(-1), 0);
        C.due("DEPTH of 2, WET", x.tree(2), -9);
        x.dry(1);
        C.due("COST of 1 alone", x.tree(-1), 9);
        x.want(1, 4);
        C.due("COST of 1 alone, less wanted", x.tree(-1), 4);
    }

    private static void treeRefusals() {
        WorldIndex x = new WorldIndex();
        C.due("tree(-2)", x.tree(-2), -2);
        C.due("tree(7)", x.tree(7), -2);
        C.due("tree(-1)", x.tree(-1), -3);
        C.due("tree(6)", x.tree(6), -3);
        Check.book(x, Check.SEVEN);
        C.due("tree(-2)", x.tree(-2), -2);
        C.due("tree(-9)", x.tree(-9), -2);
        C.due("tree(7)", x.tree(7), -2);
    }

    private static void order(String text, int[] twos, int howMany, int... first) {
        WorldIndex x = Check.withBook(text);
        x.wet(0);
        Check.fill(x, 2, 0, twos);
        C.due("how many ORDERS", x.orders(2, 0, 0, twos.length / 2, -1), howMany);
        for (int k = 0; k < 7; k++) {
            C.due("place " + k, x.orders(2, 0, 0, twos.length / 2, k), k < first.length ? first[k] : -9);
        }
        C.due("fault() of ORDERS", x.fault(), 0);
    }

    private static void orders() {
        order(Check.FOUR, new int[] {}, 24, 0, 1, 2, 3);
        order(Check.SEVEN, new int[] {}, 5040, 0, 1, 2, 3, 4, 5, 6);
        order(Check.FOUR, new int[] {3, 0}, 12, 1, 2, 3, 0);
        order(Check.FOUR, new int[] {3, 0, 3, 0}, 12, 1, 2, 3, 0);
        order(Check.FOUR, new int[] {3, 0, 0, 3}, 0);
        order(Check.FOUR, new int[] {2, 2}, 0);
        order(Check.FOUR, new int[] {3, 2, 2, 1, 1, 0}, 1, 3, 2, 1, 0);
        order(Check.FOUR, new int[] {0, 1, 2, 3}, 6, 0, 1, 2, 3);
        order(Check.FOUR, new int[] {2, 0, 3, 1}, 6, 2, 0, 3, 1);
        order(Check.FOUR, new int[] {0, 1, 1, 2, 2, 0}, 0);
        order(Check.SEVEN, new int[] {6, 5, 6, 4, 6, 3, 6, 2, 6, 1, 6, 0}, 720, 6, 0, 1, 2, 3, 4, 5);
        order(Check.SEVEN, new int[] {0, 6, 1, 6, 2, 6, 3, 6, 4, 6, 5, 6, 5, 0, 5, 1, 5, 2, 5, 3}, 24 * 6,
            4, 5, 0, 1, 2, 3, 6);
    }

    /** No call may leave a two to the next. */
    private static void ordersOneBehindAnother() {
        WorldIndex x = Check.withBook(Check.FOUR);
        for (int k = 0; k < 4; k++) {
            int other = (k + 1) % 4;
            Check.fill(x, 1, 2, other, k, k, k);
            C.due("one two ahead of " + k, x.orders(1, 2, 0, 1, -1), 12);
            C.due("and itself", x.orders(1, 2, 0, 2, -1), 0);
            C.due("no twos", x.orders(1, 2, 0, 0, -1), 24);
        }
        Check.fill(x, 1, 2, 0, 0, 9, 9);
        C.due("refused at the second two", x.orders(1, 2, 0, 2, -1), -1);
        C.due("no twos behind it", x.orders(1, 2, 0, 0, 0), 0);
    }

    private static void ordersByLanes() {
        for (int lane = 0; lane < 3; lane++) {
            WorldIndex x = Check.withBook(Check.FOUR);
            x.sheet(3, lane, 60);
            x.put(3, 59, 1);
            C.due("one two at the end", x.orders(3, lane, 58, 1, -1), 12);
            C.due("one two beyond", x.orders(3, lane, 59, 1, -1), -13);
            C.due("no twos at the end", x.orders(3, lane, 60, 0, -1), 24);
            C.due("no twos beyond", x.orders(3, lane, 61, 0, -1), -13);
            C.due("no twos below", x.orders(3, lane, -1, 0, -1), -13);
            C.due("ten twos beyond", x.orders(3, lane, 41, 10, -1), -13);
            C.due("ten twos", x.orders(3, lane, 40, 10, -1), 0);
        }
    }

    private static void ordersRefusals() {
        WorldIndex x = new WorldIndex();
        x.sheet(1, 1, 4);
        C.due("SHEET 4", x.orders(4, -1, -1, -1, -2), -1);
        C.due("SHEET -1", x.orders(-1, 0, 0, 0, 0), -1);
        C.due("lane 3", x.orders(2, 3, 0, 0, 0), -2);
        C.due("lane -1", x.orders(2, -1, 0, 0, 0), -2);
        C.due("n -1", x.orders(2, 0, 0, -1, 0), -2);
        C.due("n 11", x.orders(2, 0, 0, 11, 0), -2);
        C.due("k -2", x.orders(2, 0, 0, 0, -2), -2);
        C.due("k 7", x.orders(2, 0, 0, 0, 7), -2);
        C.due("fault() of a refusal", x.fault(), 0);
        C.due("CAST", x.orders(1, 0, 9, 1, 0), -12);
        C.due("fault()", x.fault(), 2);
        C.due("NULL", x.orders(2, 0, 9, 1, 0), -11);
        C.due("fault()", x.fault(), 1);
        C.due("INDEX", x.orders(1, 1, 3, 1, 0), -13);
        C.due("fault()", x.fault(), 3);
        C.due("INDEX", x.orders(1, 1, Integer.MAX_VALUE, 1, 0), -13);
        C.due("STATE", x.orders(1, 1, 0, 1, 0), -3);
        C.due("fault() of STATE", x.fault(), 0);
        Check.book(x, Check.FOUR);
        Check.fill(x, 1, 1, 0, 1, 4, 0, 0, 4);
        C.due("one two", x.orders(1, 1, 0, 1, -1), 12);
        C.due("the first is none", x.orders(1, 1, 2, 1, 0), -1);
        C.due("the second is none", x.orders(1, 1, 4, 1, 0), -1);
        C.due("the second two is none", x.orders(1, 1, 0, 2, 0), -1);
        x.put(1, 0, -1);
        C.due("-1 is none", x.orders(1, 1, 0, 1, 0), -1);
        Check.fill(x, 1, 1, 2, 2, 0, 4);
        C.due("UNKNOWN, though there is no order", x.orders(1, 1, 0, 2, 0), -1);
    }
}
