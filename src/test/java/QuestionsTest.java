/** Promises 6 to 10: ask, wet, dry, leads, years. */
public final class QuestionsTest {
    private static final Check C = new Check();

    public static void main(String[] args) {
        ask();
        wetAndDry();
        leads();
        years();
        yearsThatSend();
        yearsFromNow();
        yearsChangeNothing();
        yearsByLanes();
        yearsRefusals();
        yearsPairByPair();
        C.end();
    }

    private static void ask() {
        WorldIndex x = Check.withBook(Check.SEVEN);
        int[] leaves = {1, 49, 49, 49, 49, 1, 1};
        for (int k = 0; k < 7; k++) {
            C.due("ask(" + k + ")", x.ask(k), leaves[k]);
        }
        C.due("many(1)", x.many(1), 7);
        C.due("ask(7)", x.ask(7), -1);
        C.due("ask(-1)", x.ask(-1), -1);
        C.due("many(1) behind refusals", x.many(1), 7);
        x.see(5, 5);
        C.due("ask(6) that goes round", x.ask(6), -9);
        x.wet(3);
        C.due("ask(3) that is WET", x.ask(3), -9);
        C.due("ask(2) by a WET one", x.ask(2), -9);
        C.due("many(1) with those that lead nowhere", x.many(1), 10);
    }

    private static void wetAndDry() {
        WorldIndex x = Check.withBook(Check.SEVEN);
        C.due("dry(0)", x.dry(0), -3);
        C.due("wet(0)", x.wet(0), 1);
        C.due("wet(0) again", x.wet(0), -3);
        C.due("wet(6)", x.wet(6), 2);
        C.due("many(2)", x.many(2), 2);
        C.due("wet(7)", x.wet(7), -1);
        C.due("wet(-1)", x.wet(-1), -1);
        C.due("dry(7)", x.dry(7), -1);
        C.due("dry(-1)", x.dry(-1), -1);
        C.due("dry(1)", x.dry(1), -3);
        C.due("many(2) behind refusals", x.many(2), 2);
        C.due("dry(0)", x.dry(0), 1);
        C.due("ofSlip(0, 6)", x.ofSlip(0, 6), 0);
        C.due("ofSlip(6, 6)", x.ofSlip(6, 6), 1);
        C.due("LEAF of 0, DRIED", x.ofSlip(0, 4), 1);
        C.due("dry(6)", x.dry(6), 0);
        C.due("dry(6) again", x.dry(6), -3);
        for (int k = 0; k < 7; k++) {
            C.due("wet(" + k + ") of all", x.wet(k), k + 1);
        }
    }

    private static void leads() {
        WorldIndex x = new WorldIndex();
        C.due("leads(0) without BOOK", x.leads(0), -3);
        C.due("leads(99) without BOOK", x.leads(99), -2);
        C.due("leads(-1) without BOOK", x.leads(-1), -2);
        Check.book(x, Check.SEVEN);
        C.due("leads(49)", x.leads(49), 30);
        C.due("leads(1)", x.leads(1), 97);
        C.due("leads(0)", x.leads(0), 0);
        C.due("leads(98)", x.leads(98), 0);
        C.due("leads(99)", x.leads(99), -2);
        C.due("leads(-9)", x.leads(-9), -2);
        x.see(4, -9);
        C.due("leads(98) now", x.leads(98), 20);
        x.wet(2);
        C.due("leads(98) with 2 WET", x.leads(98), 16);
        x.wet(5);
        C.due("leads(1) with 5 WET", x.leads(1), 0);
    }

    private static void told(WorldIndex x, String name, int[] pairs, int... want) {
        Check.fill(x, 1, 2, pairs);
        int n = pairs.length / 2;
        int[] whats = {0, 1, 2, 3, 10, 11, 12, 13, 14, 15, 16};
        for (int w = 0; w < want.length; w++) {
            C.due(name + ", what " + whats[w], x.years(1, 2, 0, n, whats[w]), want[w]);
        }
        C.due(name + ", fault()", x.fault(), 0);
    }

    private static void years() {
        WorldIndex x = Check.withBook(Check.SEVEN);
        told(x, "no pairs", new int[] {}, 0, -9, 0, 0, 1, 49, 49, 49, 49, 1, 1);
        told(x, "questions", new int[] {0, 0, 1, 0, 6, 0}, 51, -9, 3, 0, 1, 49, 49, 49, 49, 1, 1);
        told(x, "wet, asked, dried, asked", new int[] {3, 1, 2, 0, 3, 2, 2, 0}, 49, 1, 1, 0, 1, 49, 49, 49, 49, 1, 1);
        told(x, "wet twice", new int[] {5, 1, 5, 1, 6, 0}, 0, 1, 0, 32, -9, 49, 49, 49, 49, -9, -9);
        told(x, "dried while it is not WET", new int[] {4, 0, 4, 2, 0, 0, 4, 2}, 50, 1, 2, 0, 1, 49, 49, 49, 49, 1, 1);
        told(x, "wet, dried, wet", new int[] {0, 1, 0, 2, 0, 1, 4, 1}, 0, -9, 0, 17, -9, 49, -9, 49, -9, 1, -9);
        told(x, "the last is the first wrong", new int[] {0, 1, 1, 1, 2, 1, 3, 1, 3, 0}, 0, 4, 0, 15);
    }

    private static void yearsThatSend() {
        WorldIndex x = Check.withBook(Check.SEVEN);
        told(x, "sent round, and out again", new int[] {3, 12, 2, 0, 3, 19, 2, 0}, 49, 1, 1, 0, 1, 49, 49, 49, 49, 1, 1);
        told(x, "to itself", new int[] {5, 15, 0, 0}, 0, 1, 0, 0, -9, 49, 49, 49, 49, -9, -9);
        told(x, "to 0", new int[] {3, 10, 2, 0}, 1, -9, 1, 0, 1, 1, 1, 1, 1, 1, 1);
        told(x, "to 6", new int[] {3, 16, 1, 0}, 1, -9, 1, 0, 1, 1, 1, 1, 1, 1, 1);
        told(x, "to none by 17", new int[] {4, 17, 2, 0}, 98, -9, 1, 0, 1, 49, 98, 49, 98, 1, 1);
        told(x, "a WET one is sent", new int[] {3, 1, 3, 15, 3, 2, 2, 0}, 1, -9, 1, 0, 1, 1, 1, 1, 1, 1, 1);
        WorldIndex y = Check.withBook(Check.FOUR);
        told(y, "of four, to 3", new int[] {0, 13, 0, 0}, 40, -9, 1, 0, 40, 21, 60, 40, -9, -9, -9);
        told(y, "of four, to none by 14", new int[] {0, 13, 0, 14, 0, 0}, 10, -9, 1, 0, 10, 21, 60, 40, -9, -9, -9);
    }

    private static void yearsFromNow() {
        WorldIndex x = Check.withBook(Check.SEVEN);
        x.wet(3);
        x.see(0, -9);
        told(x, "from how all is now", new int[] {3, 1, 1, 0, 0, 0, 3, 2}, 10, 0, 1, 0, 10, 49, 49, 49, 49, 1, 10);
    }

    private static void yearsChangeNothing() {
        WorldIndex x = Check.withBook(Check.SEVEN);
        x.wet(0);
        told(x, "some", new int[] {1, 1, 0, 2, 0, 0, 6, 16}, 1, -9, 1, 2);
        C.due("many(1)", x.many(1), 0);
        C.due("many(2)", x.many(2), 1);
        C.due("ofSlip(0, 6)", x.ofSlip(0, 6), 1);
        C.due("ofSlip(1, 6)", x.ofSlip(1, 6), 0);
        C.due("ofSlip(6, 3)", x.ofSlip(6, 3), 0);
    }

    private static void yearsByLanes() {
        for (int lane = 0; lane < 3; lane++) {
            WorldIndex x = Check.withBook(Check.SEVEN);
            x.sheet(3, lane, 60);
            C.due("20 pairs", x.years(3, lane, 20, 20, 2), 20);
            C.due("20 pairs", x.years(3, lane, 0, 20, 0), 20);
            C.due("20 pairs beyond", x.years(3, lane, 21, 20, 0), -13);
            C.due("1 pair at the end", x.years(3, lane, 58, 1, 0), 1);
            C.due("1 pair beyond", x.years(3, lane, 59, 1, 0), -13);
            C.due("0 pairs at the end", x.years(3, lane, 60, 0, 0), 0);
            C.due("0 pairs beyond", x.years(3, lane, 61, 0, 0), -13);
            C.due("0 pairs below", x.years(3, lane, -1, 0, 0), -13);
        }
    }

    private static void yearsRefusals() {
        WorldIndex x = new WorldIndex();
        x.sheet(1, 1, 4);
        C.due("SHEET 4", x.years(4, -1, -1, -1, -1), -1);
        C.due("SHEET -1", x.years(-1, 0, 0, 0, 0), -1);
        C.due("lane 3", x.years(2, 3, 0, 0, 0), -2);
        C.due("lane -1", x.years(2, -1, 0, 0, 0), -2);
        C.due("n -1", x.years(2, 0, 0, -1, 0), -2);
        C.due("n 21", x.years(2, 0, 0, 21, 0), -2);
        C.due("n MAX", x.years(2, 0, 0, Integer.MAX_VALUE, 0), -2);
        int[] no = {-1, 4, 5, 9, 17, -9, Integer.MAX_VALUE, Integer.MIN_VALUE};
        for (int what : no) {
            C.due("what " + what, x.years(2, 0, 0, 0, what), -2);
        }
        C.due("fault() of a refusal", x.fault(), 0);
        C.due("CAST", x.years(1, 0, 9, 1, 0), -12);
        C.due("fault()", x.fault(), 2);
        C.due("CAST", x.years(1, 2, 9, 1, 0), -12);
        C.due("NULL", x.years(2, 0, 9, 1, 0), -11);
        C.due("fault()", x.fault(), 1);
        C.due("INDEX", x.years(1, 1, 3, 1, 0), -13);
        C.due("fault()", x.fault(), 3);
        C.due("INDEX", x.years(1, 1, 0, 3, 0), -13);
        C.due("INDEX", x.years(1, 1, Integer.MAX_VALUE, 20, 0), -13);
        C.due("INDEX", x.years(1, 1, Integer.MIN_VALUE, 20, 0), -13);
        C.due("STATE", x.years(1, 1, 0, 1, 0), -3);
        C.due("fault() of STATE", x.fault(), 0);
        C.due("STATE of no pairs", x.years(1, 1, 0, 0, 0), -3);
    }

    private static void pairs(int want, int... pairs) {
        WorldIndex x = Check.withBook(Check.FOUR);
        x.put(1, 0, 0);
        Check.fill(x, 1, 2, pairs);
        C.due("pairs", x.years(1, 2, 0, pairs.length / 2, 0), want);
        C.due("fault() of pairs", x.fault(), 0);
    }

    private static void yearsPairByPair() {
        pairs(-2, 0, 3);
        pairs(-2, 0, 9);
        pairs(-2, 0, 20);
        pairs(-2, 0, -1);
        pairs(-1, 4, 0);
        pairs(-1, -1, 19);
        pairs(-2, 4, 3);
        pairs(-1, 4, 0, 0, 3);
        pairs(-2, 0, 3, 4, 0);
        pairs(-1, 0, 0, 1, 0, 4, 0);
        pairs(10, 0, 0);
    }
}
