/** Promises 1 to 5: a new object, book, ofSlip, want, see. */
public final class BookTest {
    private static final Check C = new Check();

    public static void main(String[] args) {
        newObject();
        constants();
        textsThatAreTaken();
        firstFaults();
        bookByLanes();
        bookRefusalsAndFaults();
        bookMakesAllAnew();
        badBookChangesNothing();
        ofSlip();
        leavesOfRingsAndWet();
        want();
        see();
        C.end();
    }

    private static void newObject() {
        WorldIndex x = new WorldIndex();
        for (int what = 0; what < 4; what++) {
            C.due("new: many(" + what + ")", x.many(what), 0);
        }
        C.due("new: trace()", x.trace(), 0);
        C.due("new: fault()", x.fault(), 0);
        for (int k = 0; k < 4; k++) {
            C.due("new: lose(" + k + ")", x.lose(k), 0);
            C.due("new: put(" + k + ", 0, 0)", x.put(k, 0, 0), -11);
        }
        C.due("new: ofSlip(0, 0)", x.ofSlip(0, 0), -1);
    }

    private static void constants() {
        C.due("UNKNOWN", WorldIndex.UNKNOWN, -1);
        C.due("OUTSIDE", WorldIndex.OUTSIDE, -2);
        C.due("STATE", WorldIndex.STATE, -3);
        C.due("FULL", WorldIndex.FULL, -4);
        C.due("NONE", WorldIndex.NONE, -9);
        C.due("LOST", WorldIndex.LOST, Long.MIN_VALUE);
    }

    private static void text(String text, int want) {
        WorldIndex x = new WorldIndex();
        C.due("book of " + text, Check.book(x, text), want);
        C.due("fault() behind book of " + text, x.fault(), 0);
        C.due("many(0) behind book of " + text, x.many(0), Math.max(want, 0));
    }

    private static void textsThatAreTaken() {
        text("i;l0000;l0000", 2);
        text("i;l4999;d4999;b4999", 3);
        text(Check.FOUR, 4);
        text("i;l0000;l0000;l0000;l0000;l0000", 5);
        text("i;l0000;l0000;l0000;l0000;l0000;l0000", 6);
        text(Check.SEVEN, 7);
    }

    private static void firstFaults() {
        String two = "i;l1239;d0540";
        for (int n = 0; n < two.length(); n++) {
            text(two.substring(0, n), -100 - n);
        }
        for (int at = 0; at < two.length(); at++) {
            text(two.substring(0, at) + "x" + two.substring(at + 1), -100 - at);
        }
        text(two + "l", -113);
        text(two + ";", -114);
        text(two + ";;", -114);
        text("l;l1239;d0540", -100);
        text("i;i1239;d0540", -102);
        text("i;L1239;d0540", -102);
        text("i;l5039;d0540", -103);
        text("i;l9039;d0540", -103);
        text("i;l/039;d0540", -103);
        text("i;l1:39;d0540", -104);
        text("i;l1/39;d0540", -104);
        text("i;l12:9;d0540", -105);
        text("i;l12/9;d0540", -105);
        text("i;l123:;d0540", -106);
        text("i;l123/;d0540", -106);
        text("i;l12390;d0540", -107);
        text(Check.SEVEN + ";", -143);
        text(Check.SEVEN + ";l0000", -143);
        text(Check.SEVEN + "0", -143);
        text(Check.SEVEN.substring(0, 42), -142);
        text(Check.SEVEN.substring(0, 38), -138);
    }

    private static void bookByLanes() {
        String two = "i;l1239;d0540";
        for (int lane = 0; lane < 3; lane++) {
            WorldIndex x = new WorldIndex();
            x.sheet(3, lane, 60);
            int[] codes = Check.codes(two);
            for (int i = 0; i < codes.length; i++) {
                x.put(3, 47 + i, codes[i]);
            }
            C.due("book(3, lane, 47, 13)", x.book(3, lane, 47, 13), 2);
            C.due("book(3, lane, 46, 13)", x.book(3, lane, 46, 13), -100);
            C.due("book(3, lane, 60, 0)", x.book(3, lane, 60, 0), -100);
            C.due("page by lane", x.ofSlip(0, 1), 12);
            // 361 is 105 and 256: an i of bytes alone
            x.put(3, 47, 361);
            C.due("book of a cut i", x.book(3, lane, 47, 13), lane == 0 ? 2 : -100);
            x.put(3, 47, 65536 + 105);
            C.due("book of an i cut from 65641", x.book(3, lane, 47, 13), lane == 2 ? -100 : 2);
        }
    }

    private static void bookRefusalsAndFaults() {
        WorldIndex x = Check.withBook(Check.FOUR);
        x.sheet(1, 1, 10);
        int[] noSheets = {-1, 4, Integer.MIN_VALUE, Integer.MAX_VALUE};
        for (int k : noSheets) {
            C.due("book of SHEET " + k, x.book(k, -1, -1, -1), -1);
        }
        C.due("book(1, 3, -1, -1)", x.book(1, 3, -1, -1), -2);
        C.due("book(1, -1, -1, -1)", x.book(1, -1, -1, -1), -2);
        C.due("book(1, 0, -1, -1)", x.book(1, 0, -1, -1), -12);
        C.due("fault()", x.fault(), 2);
        C.due("book(1, 2, 0, 1)", x.book(1, 2, 0, 1), -12);
        C.due("book(2, 0, -1, -1)", x.book(2, 0, -1, -1), -11);
        C.due("fault()", x.fault(), 1);
        C.due("book(1, 1, -1, -1)", x.book(1, 1, -1, -1), -14);
        C.due("fault()", x.fault(), 4);
        C.due("book(1, 1, 0, MIN)", x.book(1, 1, 0, Integer.MIN_VALUE), -14);
        int[][] beyond = {{-1, 0}, {-1, 1}, {11, 0}, {10, 1}, {0, 11}, {9, 2}, {Integer.MAX_VALUE, 0},
            {Integer.MIN_VALUE, 0}, {1, Integer.MAX_VALUE}, {Integer.MAX_VALUE, Integer.MAX_VALUE}};
        for (int[] b : beyond) {
            C.due("book(1, 1, " + b[0] + ", " + b[1] + ")", x.book(1, 1, b[0], b[1]), -13);
            C.due("fault()", x.fault(), 3);
        }
        C.due("book(1, 1, 10, 0)", x.book(1, 1, 10, 0), -100);
        C.due("fault() of no FAULT", x.fault(), 0);
        C.due("many(0) behind all of these", x.many(0), 4);
    }

    private static void bookMakesAllAnew() {
        WorldIndex x = Check.withBook(Check.SEVEN);
        x.wet(1);
        x.ask(0);
        x.reading(0, 1);
        x.want(0, 9);
        x.see(0, 3);
        x.tell(0);
        C.due("many(1)", x.many(1), 1);
        C.due("book anew", Check.book(x, Check.FOUR), 4);
        C.due("many(0) anew", x.many(0), 4);
        C.due("many(1) anew", x.many(1), 0);
        C.due("many(2) anew", x.many(2), 0);
        C.due("many(3) anew", x.many(3), 0);
        C.due("ofSlip(0, 2) anew", x.ofSlip(0, 2), 1);
        C.due("ofSlip(0, 3) anew", x.ofSlip(0, 3), -9);
        C.due("ofSlip(1, 6) anew", x.ofSlip(1, 6), 0);
        C.due("ofSlip(4, 0) anew", x.ofSlip(4, 0), -1);
        C.due("trace() is not of the BOOK", x.trace(), 1);
    }

    private static void badBookChangesNothing() {
        WorldIndex x = Check.withBook(Check.SEVEN);
        x.wet(1);
        x.ask(0);
        x.reading(0, 1);
        C.due("no TEXT", Check.book(x, "i;b4911;b4911;"), -114);
        C.due("many(0)", x.many(0), 7);
        C.due("many(1)", x.many(1), 1);
        C.due("many(2)", x.many(2), 1);
        C.due("many(3)", x.many(3), 1);
        C.due("ofSlip(0, 1)", x.ofSlip(0, 1), 10);
    }

    private static void ofSlip() {
        WorldIndex x = Check.withBook(Check.SEVEN);
        int[][] all = {
            {0, 10, 3, 5, 1, 2, 0, 10},
            {1, 20, 1, 3, 49, 2, 0, 21},
            {2, 25, 2, 4, 49, 4, 0, 50},
            {0, 49, 0, -9, 49, 1, 0, 49},
            {2, 49, 0, 1, 49, 3, 0, 98},
            {1, 0, 9, -9, 1, 1, 0, 1},
            {0, 7, 7, 0, 1, 3, 0, 7}};
        for (int k = 0; k < 7; k++) {
            for (int what = 0; what < 8; what++) {
                C.due("ofSlip(" + k + ", " + what + ")", x.ofSlip(k, what), all[k][what]);
            }
            C.due("ofSlip(" + k + ", 8)", x.ofSlip(k, 8), -2);
            C.due("ofSlip(" + k + ", -1)", x.ofSlip(k, -1), -2);
        }
        C.due("ofSlip(7, 0)", x.ofSlip(7, 0), -1);
        C.due("ofSlip(-1, 8)", x.ofSlip(-1, 8), -1);
        C.due("ofSlip(MAX, 8)", x.ofSlip(Integer.MAX_VALUE, 8), -1);
        C.due("ofSlip(-9, 0)", x.ofSlip(-9, 0), -1);
        // a digit that is no SLIP of this BOOK sees none; the greatest that is one is seen
        WorldIndex y = Check.withBook("i;l0002;b4901;l0004");
        C.due("sees 2 of 3", y.ofSlip(0, 3), 2);
        C.due("sees 1 of 3", y.ofSlip(1, 3), 1);
        C.due("sees 4 of 3", y.ofSlip(2, 3), -9);
    }

    private static void leavesOfRingsAndWet() {
        // 0 - 1 - 2 - 1: a RING of 1 and 2, to which 0 leads; 3 sees itself
        WorldIndex x = Check.withBook("i;l1011;l1112;l1211;l1313;l1413");
        for (int k = 0; k < 5; k++) {
            C.due("LEAF round " + k, x.ofSlip(k, 4), -9);
            C.due("LOOKS round " + k, x.ofSlip(k, 5), -9);
        }
        x.see(2, -9);
        C.due("LEAF of 0 by 1, 2", x.ofSlip(0, 4), 12);
        C.due("LOOKS of 0 by 1, 2", x.ofSlip(0, 5), 3);
        x.wet(1);
        C.due("LEAF of 0 by a WET one", x.ofSlip(0, 4), -9);
        C.due("LOOKS of 0 by a WET one", x.ofSlip(0, 5), -9);
        C.due("LEAF of a WET one", x.ofSlip(1, 4), -9);
        C.due("LOOKS of a WET one", x.ofSlip(1, 5), -9);
        C.due("WET", x.ofSlip(1, 6), 1);
        C.due("POINTS of a WET one", x.ofSlip(1, 7), 11);
        C.due("LEAF of 2", x.ofSlip(2, 4), 12);
        // all seven one behind another
        WorldIndex y = Check.withBook("i;l1011;l1112;l1213;l1314;l1415;l1516;b4909");
        C.due("LEAF by seven LOOKS", y.ofSlip(0, 4), 98);
        C.due("seven LOOKS", y.ofSlip(0, 5), 7);
        y.see(6, 0);
        C.due("a RING of seven", y.ofSlip(0, 4), -9);
    }

    private static void want() {
        WorldIndex x = Check.withBook(Check.SEVEN);
        C.due("want(0, 9)", x.want(0, 9), 3);
        C.due("want(0, 0)", x.want(0, 0), 9);
        C.due("want(0, 10)", x.want(0, 10), -2);
        C.due("want(0, -1)", x.want(0, -1), -2);
        C.due("want(7, 10)", x.want(7, 10), -1);
        C.due("want(-1, 0)", x.want(-1, 0), -1);
        C.due("ofSlip(0, 2)", x.ofSlip(0, 2), 0);
        C.due("want(6, 4)", x.want(6, 4), 7);
        C.due("ofSlip(6, 2)", x.ofSlip(6, 2), 4);
        C.due("ofSlip(5, 2)", x.ofSlip(5, 2), 9);
    }

    private static void see() {
        WorldIndex x = Check.withBook(Check.SEVEN);
        C.due("see(0, 6)", x.see(0, 6), 5);
        C.due("see(0, 0)", x.see(0, 0), 6);
        C.due("see(0, -9)", x.see(0, -9), 0);
        C.due("see(0, -9)", x.see(0, -9), -9);
        C.due("ofSlip(0, 4)", x.ofSlip(0, 4), 10);
        C.due("see(0, 7)", x.see(0, 7), -1);
        C.due("see(0, -1)", x.see(0, -1), -1);
        C.due("see(0, MIN)", x.see(0, Integer.MIN_VALUE), -1);
        C.due("see(7, 0)", x.see(7, 0), -1);
        C.due("see(-9, 0)", x.see(-9, 0), -1);
        C.due("ofSlip(0, 3)", x.ofSlip(0, 3), -9);
        x.wet(3);
        C.due("see(3, 2) of a WET one", x.see(3, 2), -9);
        C.due("ofSlip(3, 3)", x.ofSlip(3, 3), 2);
    }
}
