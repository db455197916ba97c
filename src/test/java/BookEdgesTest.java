/** The edges that the document names of promises 1 to 5, and of part 1 of its terms; a test for each sentence. */
public final class BookEdgesTest {
    private static final Edges E = new Edges();
    private static final String FORTY_THREE = Check.SEVEN;
    private static final int UNKNOWN = Edges.UNKNOWN, OUTSIDE = Edges.OUTSIDE, STATE = Edges.STATE, NONE = Edges.NONE;
    private static final int MIN = Edges.MIN, MAX = Edges.MAX;

    public static void main(String[] args) {
        noBookAtFirst();
        sheetsHaveNothingAtFirst();
        fiveHundredAndTwelveCalls();
        twoToSevenSlips();
        slipsAreNumberedFromZeroOn();
        pageOfTwoDigits();
        askedOfOneDigit();
        seesNoneIfThereIsNoSuchSlip();
        firstCodeWithWhichNoTextGoesOn();
        semicolonOfAnEighthSlip();
        textThatEndsTooSoon();
        codesBeyondALane();
        textThatIsNotTakenChangesNothing();
        takenTextMakesAllAnew();
        takenTextLeavesTraceAndSheets();
        points();
        leafInARing();
        leafOfAWetOne();
        looksAtItToo();
        bookOfNoSheet();
        bookOfNoLane();
        bookCast();
        bookOfNothing();
        bookOfALengthBelowZero();
        bookBeyondTheCells();
        bookFaultsInTheirOrder();
        ofSlip();
        want();
        see();
        E.end();
    }

    private static String slips(int n) {
        StringBuilder text = new StringBuilder("i");
        for (int k = 0; k < n; k++) {
            text.append(";l0019");
        }
        return text.toString();
    }

    private static void noBookAtFirst() {
        E.of(Edges::fresh, "WorldIndex(): No BOOK (no SLIPS)");
        for (int what = 0; what < 4; what++) {
            int w = what;
            E.onlyTells("many(" + w + ")", x -> x.many(w), 0);
        }
        E.refused("ofSlip(0, 0)", x -> x.ofSlip(0, 0), UNKNOWN);
        E.refused("want(0, 0)", x -> x.want(0, 0), UNKNOWN);
        E.refused("see(0, NONE)", x -> x.see(0, NONE), UNKNOWN);
        E.refused("ask(0)", x -> x.ask(0), UNKNOWN);
        E.refused("wet(0)", x -> x.wet(0), UNKNOWN);
        E.refused("dry(0)", x -> x.dry(0), UNKNOWN);
        E.refused("leads(0)", x -> x.leads(0), STATE);
        E.refused("rings(0)", x -> x.rings(0), STATE);
        E.refused("cuts()", x -> x.cuts(), STATE);
        E.refused("tree(-1)", x -> x.tree(-1), STATE);
        E.refused("reading(0, 0)", x -> x.reading(0, 0), UNKNOWN);
        E.refused("pages(0, 0)", x -> x.pages(0, 0), UNKNOWN);
        E.refused("kinds(0)", x -> x.kinds(0), UNKNOWN);
        E.refused("seen(0)", x -> x.seen(0), UNKNOWN);
        E.refused("odds(0, 0)", x -> x.odds(0, 0), Edges.LOST);
        E.refused("tell(0)", x -> x.tell(0), UNKNOWN);
        E.refused("quote(0)", x -> x.quote(0), UNKNOWN);
        E.refusedOfFaults("as(0, 0)", x -> x.as(0, 0), UNKNOWN);
        E.answers("trace()", x -> x.trace(), 0);
        E.answers("fault()", x -> x.fault(), 0);
    }

    private static void sheetsHaveNothingAtFirst() {
        E.of(Edges::fresh, "WorldIndex(): SHEETS have nothing");
        for (int sheet = 0; sheet < 4; sheet++) {
            int k = sheet;
            E.answers("lose(" + k + ")", x -> x.lose(k), 0);
            E.faulted("put(" + k + ", 0, 0)", x -> x.put(k, 0, 0), Edges.NULL);
            for (int lane = 0; lane < 3; lane++) {
                int l = lane;
                E.lost("cell(" + k + ", 0, " + l + ")", x -> x.cell(k, 0, l), Edges.NULL);
            }
        }
    }

    private static void fiveHundredAndTwelveCalls() {
        E.of(Edges::two, "An object is used for at most 512 calls after it has been made");
        WorldIndex x = Edges.two();
        // 15 calls have been made
        for (int call = 16; call < 512; call++) {
            E.due("call " + call + ", ask(1)", x.ask(1), 12);
        }
        E.due("call 512, many(1)", x.many(1), 496);
        // what later calls answer is free, but they answer
        for (int call = 513; call < 2000; call++) {
            x.ask(1);
            x.tell(1);
            x.reading(0, 0);
        }
    }

    private static void twoToSevenSlips() {
        E.of(Edges::fresh, "A BOOK by a TEXT: i, then 2 to 7 SLIPS");
        int[] want = {-101, -107, 2, 3, 4, 5, 6, 7, -143};
        for (int n = 0; n < want.length; n++) {
            String text = slips(n);
            E.answersWithoutFault(n + " SLIPS", x -> Check.book(x, text), want[n]);
            E.answers("many(0) of " + n + " SLIPS", x -> behind(text, x).many(0), Math.max(0, want[n]));
        }
    }

    private static WorldIndex behind(String text, WorldIndex x) {
        Check.book(x, text);
        return x;
    }

    private static void slipsAreNumberedFromZeroOn() {
        for (int slips = 2; slips <= 7; slips++) {
            int n = slips;
            E.of(() -> Check.withBook(slips(n)), "SLIPS, numbered from 0 on, of " + n);
            E.onlyTells("ofSlip(0, 0)", x -> x.ofSlip(0, 0), 0);
            E.onlyTells("ofSlip(n - 1, 0)", x -> x.ofSlip(n - 1, 0), 0);
            E.refused("ofSlip(n, 0)", x -> x.ofSlip(n, 0), UNKNOWN);
            E.refused("ofSlip(-1, 0)", x -> x.ofSlip(-1, 0), UNKNOWN);
        }
    }

    private static void text(String text, int want) {
        E.answersWithoutFault(text, x -> Check.book(x, text), want);
    }

    private static void pageOfTwoDigits() {
        E.of(Edges::fresh, "two digits 00 .. 49 (PAGE)");
        for (int page = 0; page < 100; page++) {
            String text = "i;l0019;l" + page / 10 + page % 10 + "19";
            text(text, page < 50 ? 2 : -109);
            int p = page;
            if (p < 50) {
                E.answers("PAGE of " + text, x -> behind(text, x).ofSlip(1, 1), p);
            }
        }
        text("i;l/019;l0019", -103);
        text("i;l:019;l0019", -103);
        text("i;l0/19;l0019", -104);
        text("i;l0:19;l0019", -104);
        text("i;l4/19;l0019", -104);
        text("i;l4:19;l0019", -104);
    }

    private static void askedOfOneDigit() {
        E.of(Edges::fresh, "a digit 0 .. 9 (ASKED)");
        for (int asked = 0; asked < 10; asked++) {
            String text = "i;l00" + asked + "9;l0019";
            text(text, 2);
            E.answers("ASKED of " + text, x -> behind(text, x).ofSlip(0, 2), asked);
        }
        text("i;l00/9;l0019", -105);
        text("i;l00:9;l0019", -105);
    }

    private static void seesNoneIfThereIsNoSuchSlip() {
        E.of(Edges::fresh, "a digit 0 .. 9 (SEE: the SLIP of that number; none, if there is no such SLIP)");
        for (int n = 2; n <= 7; n++) {
            for (int to = 0; to < 10; to++) {
                String text = "i;l001" + to + slips(n - 1).substring(1);
                int due = to < n ? to : NONE;
                E.answers("SEE of " + text, x -> behind(text, x).ofSlip(0, 3), due);
                // the last one, too: there may be none behind it
                String last = slips(n - 1) + ";l001" + to;
                int of = n - 1;
                E.answers("SEE of the last of " + last, x -> behind(last, x).ofSlip(of, 3), due);
            }
        }
        text("i;l001/;l0019", -106);
        text("i;l001:;l0019", -106);
    }

    /** All codes that a TEXT may have at a place. */
    private static String goesOn(int place) {
        if (place == 0) {
            return "i";
        }
        String[] codes = {";", "ldb", "01234", "0123456789", "0123456789", "0123456789"};
        return codes[(place - 1) % 6];
    }

    private static void firstCodeWithWhichNoTextGoesOn() {
        E.of(Edges::fresh, "FIRST FAULT: the place (from 0 on) of the first code with which no TEXT goes on");
        for (int place = 0; place < 43; place++) {
            WorldIndex x = new WorldIndex();
            Check.fill(x, 0, 2, Check.codes(FORTY_THREE));
            for (int code = -1; code < 200; code++) {
                boolean on = code >= 0 && goesOn(place).indexOf((char) code) >= 0;
                x.put(0, place, code);
                E.due("code " + code + " at " + place, x.book(0, 2, 0, 43), on ? 7 : -100 - place);
            }
        }
        // the first, if there are several; and a fault ahead of an end that comes too soon
        text("x;l0019;x0019", -100);
        text("i;l0x19;l001x", -104);
        text("i;lx", -103);
        text("i;l0019;", -108);
        text("i;l0019;;", -108);
        text("i;;", -102);
        text("ii", -101);
    }

    private static void semicolonOfAnEighthSlip() {
        E.of(Edges::fresh, "the first code with which no TEXT goes on (the ; of an eighth SLIP)");
        text(FORTY_THREE, 7);
        text(FORTY_THREE + ";", -143);
        text(FORTY_THREE + ";l0019", -143);
        text(FORTY_THREE + "l", -143);
        text(FORTY_THREE + "0", -143);
        text(FORTY_THREE + ";l0019;l0019;l001", -143);
        text(slips(6) + ";", -138);
        text(slips(6) + ";l001", -142);
    }

    private static void textThatEndsTooSoon() {
        E.of(Edges::fresh, "how many codes there are, if it just ends too soon");
        for (int n = 0; n <= 43; n++) {
            boolean taken = n >= 13 && n % 6 == 1;
            text(FORTY_THREE.substring(0, n), taken ? n / 6 : -100 - n);
        }
    }

    private static void codesBeyondALane() {
        E.of(Edges::fresh, "what comes to a cell of it is cut to its LANE (of a TEXT)");
        for (int lane = 0; lane < 3; lane++) {
            int l = lane;
            E.answers("i and 256, lane " + l, x -> bookWithFirst(x, l, 105 + 256), l == 0 ? 2 : -100);
            E.answers("i less 256, lane " + l, x -> bookWithFirst(x, l, 105 - 256), l == 0 ? 2 : -100);
            E.answers("i and 65536, lane " + l, x -> bookWithFirst(x, l, 105 + 65536), l < 2 ? 2 : -100);
            E.answers("i less 65536, lane " + l, x -> bookWithFirst(x, l, 105 - 65536), l < 2 ? 2 : -100);
        }
    }

    private static int bookWithFirst(WorldIndex x, int lane, int first) {
        int[] codes = Check.codes(slips(2));
        codes[0] = first;
        Check.fill(x, 0, lane, codes);
        return x.book(0, lane, 0, 13);
    }

    private static void textThatIsNotTakenChangesNothing() {
        // SHEET 0 begins with i, 0; SHEET 2 has no cells
        E.of(Edges::seven, "-100 less the FIRST FAULT (a TEXT that is not taken changes nothing)");
        E.refusedOfFaults("book(0, 0, 0, 60)", x -> x.book(0, 0, 0, 60), -101);
        E.refusedOfFaults("book(0, 0, 0, 1)", x -> x.book(0, 0, 0, 1), -101);
        E.refusedOfFaults("book(0, 0, 0, 0)", x -> x.book(0, 0, 0, 0), -100);
        E.refusedOfFaults("book(0, 0, 1, 1)", x -> x.book(0, 0, 1, 1), -100);
        E.refusedOfFaults("book(2, 2, 0, 0)", x -> x.book(2, 2, 0, 0), -100);
        E.of(() -> withTextAt(Edges.seven(), slips(7) + ";"), "-100 less the FIRST FAULT (of an eighth SLIP)");
        E.refusedOfFaults("book(0, 0, 0, 44)", x -> x.book(0, 0, 0, 44), -143);
        E.refusedOfFaults("book(0, 0, 0, 42)", x -> x.book(0, 0, 0, 42), -142);
    }

    private static WorldIndex withTextAt(WorldIndex x, String text) {
        Check.fill(x, 0, 0, Check.codes(text));
        return x;
    }

    private static void takenTextMakesAllAnew() {
        E.of(Edges::read, "A TEXT that is taken makes all anew: no SLIP is WET, no questions, no READINGS");
        for (int slips = 2; slips <= 7; slips++) {
            int n = slips;
            E.answers("many(0)", x -> behind(slips(n), x).many(0), n);
            E.answers("many(1)", x -> behind(slips(n), x).many(1), 0);
            E.answers("many(2)", x -> behind(slips(n), x).many(2), 0);
            E.answers("many(3)", x -> behind(slips(n), x).many(3), 0);
            E.answers("back(1)", x -> behind(slips(n), x).back(1), OUTSIDE);
            E.answers("reading(0, 0)", x -> behind(slips(n), x).reading(0, 0), 0);
            E.answers("rings(0)", x -> behind(slips(n), x).rings(0), 0);
            E.answers("leads(0)", x -> behind(slips(n), x).leads(0), (1 << n) - 1);
            E.answers("ofSlip(n, 0)", x -> behind(slips(n), x).ofSlip(n, 0), UNKNOWN);
            for (int slip = 0; slip < n; slip++) {
                int k = slip;
                int[] due = {0, 0, 1, NONE, 0, 1, 0, 0};
                for (int what = 0; what < 8; what++) {
                    int w = what;
                    E.answers("ofSlip(" + k + ", " + w + ")", x -> behind(slips(n), x).ofSlip(k, w), due[w]);
                }
                E.answers("dry(" + k + ")", x -> behind(slips(n), x).dry(k), STATE);
                E.answers("wet(" + k + ")", x -> behind(slips(n), x).wet(k), 1);
                E.answers("pages(" + k + ", 0)", x -> behind(slips(n), x).pages(k, 0), 50);
                E.answers("kinds(" + k + ")", x -> behind(slips(n), x).kinds(k), 7);
                E.answers("seen(" + k + ")", x -> behind(slips(n), x).seen(k), 128 + (1 << n) - 1);
            }
        }
    }

    private static void takenTextLeavesTraceAndSheets() {
        E.of(Edges::seven, "A TEXT that is taken makes all anew (of a BOOK; TRACE and SHEETS are none of it)");
        // DASH's and LINE's bodies by tell(1), a BOLD one's own by quote(2)
        E.answers("trace()", x -> behind(slips(2), x).trace(), (2 * 31 + 1) * 31 + 5);
        E.answers("cell(1, 1, 1)", x -> behind(slips(2), x).cell(1, 1, 1), -300);
        E.answers("cell(0, 12, 0)", x -> behind(slips(2), x).cell(0, 12, 0), '9');
        E.answers("lose(2)", x -> behind(slips(2), x).lose(2), 1);
        E.answers("lose(3)", x -> behind(slips(2), x).lose(3), 0);
    }

    private static void points() {
        E.of(Edges::fresh, "POINTS: a LINE to PAGE; a DASH to 1 more; a BOLD one to twice what a LINE does");
        int[] pages = {0, 1, 48, 49};
        for (int page : pages) {
            String digits = "" + page / 10 + page % 10;
            String text = "i;l" + digits + "19;d" + digits + "19;b" + digits + "19";
            int[] due = {page, page + 1, 2 * page};
            for (int kind = 0; kind < 3; kind++) {
                int k = kind;
                E.answers("kind of " + k, x -> behind(text, x).ofSlip(k, 0), k);
                E.answers("POINTS of " + k + " in " + text, x -> behind(text, x).ofSlip(k, 7), due[k]);
                E.answers("LEAF of " + k + " in " + text, x -> behind(text, x).ofSlip(k, 4), due[k]);
            }
        }
    }

    private static void leafInARing() {
        // 0 sees itself; 1 - 2 - 1; 3 - 4 - 5 - 3; 6 leads to 0
        E.of(() -> Check.withBook("i;l1010;l1112;l1211;l1314;l1415;l1513;l1610"),
            "none (NONE) in a RING of SLIPS that SEE one another (one may SEE itself)");
        for (int slip = 0; slip < 7; slip++) {
            int k = slip;
            E.onlyTells("LEAF of " + k, x -> x.ofSlip(k, 4), NONE);
            E.onlyTells("LOOKS of " + k, x -> x.ofSlip(k, 5), NONE);
            E.onlyTells("POINTS of " + k, x -> x.ofSlip(k, 7), 10 + k);
        }
        E.answers("LEAF of 6, out of the RING", x -> x.see(0, NONE) + x.ofSlip(6, 4), 10);
        E.answers("LEAF of 4, out of the RING", x -> x.see(5, NONE) - 3 + x.ofSlip(4, 4), 15);
    }

    private static void leafOfAWetOne() {
        E.of(Edges::two, "none (NONE) ... and of a WET one");
        E.answers("LEAF of 0", x -> x.ofSlip(0, 4), 12);
        E.answers("LEAF of 0, WET", x -> x.wet(0) - 1 + x.ofSlip(0, 4), NONE);
        E.answers("LEAF of 1 by 0, WET", x -> x.wet(0) - 1 + x.ofSlip(1, 4), NONE);
        E.answers("LOOKS of 1 by 0, WET", x -> x.wet(0) - 1 + x.ofSlip(1, 5), NONE);
        E.answers("LEAF of 1, WET", x -> x.wet(1) - 1 + x.ofSlip(1, 4), NONE);
        E.answers("LEAF of 0, that 1, WET, SEES", x -> x.wet(1) - 1 + x.ofSlip(0, 4), 12);
        E.answers("LEAF of 1, DRIED", x -> x.wet(1) - 1 + x.dry(1) + x.ofSlip(1, 4), 12);
    }

    private static void looksAtItToo() {
        E.of(() -> Check.withBook("i;l1011;l1112;l1213;l1314;l1415;l1516;b4909"),
            "LOOKS: at how many SLIPS one looks till the LEAF (it, too)");
        for (int slip = 0; slip < 7; slip++) {
            int k = slip;
            E.onlyTells("LOOKS of " + k, x -> x.ofSlip(k, 5), 7 - k);
            E.onlyTells("LEAF of " + k, x -> x.ofSlip(k, 4), 98);
        }
        E.answers("LOOKS round by seven", x -> x.see(6, 0) + 9 + x.ofSlip(0, 5), NONE);
        E.answers("LOOKS of 0 by 6, WET", x -> x.wet(6) - 1 + x.ofSlip(0, 5), NONE);
    }

    private static void bookOfNoSheet() {
        E.of(Edges::seven, "book: UNKNOWN");
        for (int no : new int[] {-1, 4, MIN, MAX}) {
            E.refusedOfFaults("book(" + no + ", 0, 0, 0)", x -> x.book(no, 0, 0, 0), UNKNOWN);
            E.refusedOfFaults("book(" + no + ", 3, -1, -1)", x -> x.book(no, 3, -1, -1), UNKNOWN);
        }
        E.of(() -> everywhere(2), "book: of each SHEET");
        for (int sheet = 0; sheet < 4; sheet++) {
            int k = sheet;
            E.answersWithoutFault("book(" + k + ", 2, 0, 13)", x -> bookOn(x, k, 2), 2);
        }
    }

    private static WorldIndex everywhere(int lane) {
        WorldIndex x = new WorldIndex();
        for (int k = 0; k < 4; k++) {
            Check.fill(x, k, lane, Check.codes(slips(2)));
        }
        return x;
    }

    private static int bookOn(WorldIndex x, int k, int lane) {
        return x.book(k, lane, 0, 13);
    }

    private static void bookOfNoLane() {
        E.of(Edges::seven, "book: OUTSIDE: lane");
        for (int no : new int[] {-1, 3, MIN, MAX}) {
            E.refusedOfFaults("book(1, " + no + ", 0, 0)", x -> x.book(1, no, 0, 0), OUTSIDE);
            E.refusedOfFaults("book(3, " + no + ", -1, -1)", x -> x.book(3, no, -1, -1), OUTSIDE);
        }
        for (int lane = 0; lane < 3; lane++) {
            int l = lane;
            E.of(() -> everywhere(l), "book: of each LANE");
            E.answersWithoutFault("book(3, " + l + ", 0, 13)", x -> bookOn(x, 3, l), 2);
        }
    }

    private static void bookCast() {
        E.of(Edges::seven, "book: FAULTS CAST");
        for (int sheet = 0; sheet < 3; sheet++) {
            for (int lane = 0; lane < 3; lane++) {
                int k = sheet;
                int l = lane;
                if (k != l) {
                    E.faulted("book(" + k + ", " + l + ", 0, 0)", x -> x.book(k, l, 0, 0), Edges.CAST);
                } else {
                    E.refusedOfFaults("book(" + k + ", " + l + ", 0, 0)", x -> x.book(k, l, 0, 0), -100);
                }
            }
        }
    }

    private static void bookOfNothing() {
        E.of(Edges::seven, "book: FAULTS CAST (nothing is no CAST), NULL");
        for (int lane = 0; lane < 3; lane++) {
            int l = lane;
            E.faulted("book(3, " + l + ", 0, 0)", x -> x.book(3, l, 0, 0), Edges.NULL);
        }
        E.of(Edges::fresh, "book: NULL of a new object");
        E.faulted("book(0, 0, 0, 13)", x -> x.book(0, 0, 0, 13), Edges.NULL);
        E.of(() -> lost(Edges.seven(), 1), "book: NULL of a SHEET that had a row");
        E.faulted("book(1, 0, 0, 0)", x -> x.book(1, 0, 0, 0), Edges.NULL);
    }

    private static WorldIndex lost(WorldIndex x, int k) {
        x.lose(k);
        return x;
    }

    private static void bookOfALengthBelowZero() {
        E.of(Edges::seven, "book: SIZE: n is below 0");
        E.faulted("book(0, 0, 0, -1)", x -> x.book(0, 0, 0, -1), Edges.SIZE);
        E.faulted("book(0, 0, 0, MIN)", x -> x.book(0, 0, 0, MIN), Edges.SIZE);
        E.faulted("book(2, 2, 0, -1)", x -> x.book(2, 2, 0, -1), Edges.SIZE);
        E.refusedOfFaults("book(0, 0, 0, 0)", x -> x.book(0, 0, 0, 0), -100);
    }

    private static void bookBeyondTheCells() {
        E.of(Edges::seven, "book: INDEX: not all cells are there");
        int[][] beyond = {{-1, 0}, {-1, 1}, {0, 11}, {1, 10}, {9, 2}, {10, 1}, {11, 0}, {MIN, 0}, {MIN, 1}, {MAX, 0},
            {MAX, 1}, {1, MAX}, {10, MAX}, {MAX, MAX}, {MIN, MAX}};
        for (int[] b : beyond) {
            E.faulted("book(1, 1, " + b[0] + ", " + b[1] + ")", x -> x.book(1, 1, b[0], b[1]), Edges.INDEX);
        }
        int[][] inside = {{0, 10}, {1, 9}, {9, 1}, {10, 0}, {0, 0}};
        for (int[] b : inside) {
            E.refusedOfFaults("book(1, 1, " + b[0] + ", " + b[1] + ")", x -> x.book(1, 1, b[0], b[1]), -100);
        }
        E.faulted("book(2, 2, 0, 1)", x -> x.book(2, 2, 0, 1), Edges.INDEX);
        E.faulted("book(2, 2, 1, 0)", x -> x.book(2, 2, 1, 0), Edges.INDEX);
        E.faulted("book(0, 0, 0, 61)", x -> x.book(0, 0, 0, 61), Edges.INDEX);
        E.faulted("book(0, 0, 61, 0)", x -> x.book(0, 0, 61, 0), Edges.INDEX);
        E.refusedOfFaults("book(0, 0, 60, 0)", x -> x.book(0, 0, 60, 0), -100);
        E.of(() -> withTextAt(new WorldIndex(), "xxx" + slips(2)), "book: of n cells from i on");
        E.answersWithoutFault("book(0, 0, 3, 13)", x -> x.book(0, 0, 3, 13), 2);
        E.faulted("book(0, 0, 4, 13)", x -> x.book(0, 0, 4, 13), Edges.INDEX);
        E.refusedOfFaults("book(0, 0, 2, 13)", x -> x.book(0, 0, 2, 13), -100);
        E.refusedOfFaults("book(0, 0, 3, 12)", x -> x.book(0, 0, 3, 12), -112);
    }

    private static void bookFaultsInTheirOrder() {
        E.of(Edges::seven, "Of a call the first that is come to, in the order told (book)");
        E.faulted("CAST ahead of SIZE and INDEX", x -> x.book(1, 0, -1, -1), Edges.CAST);
        E.faulted("CAST ahead of INDEX", x -> x.book(1, 0, 11, 1), Edges.CAST);
        E.faulted("NULL ahead of SIZE and INDEX", x -> x.book(3, 0, -1, -1), Edges.NULL);
        E.faulted("NULL ahead of INDEX", x -> x.book(3, 0, 11, 1), Edges.NULL);
        E.faulted("SIZE ahead of INDEX", x -> x.book(1, 1, -1, -1), Edges.SIZE);
        E.faulted("SIZE ahead of INDEX", x -> x.book(1, 1, 11, -1), Edges.SIZE);
        E.faulted("INDEX ahead of the FIRST FAULT", x -> x.book(1, 1, 0, 11), Edges.INDEX);
    }

    private static void ofSlip() {
        E.of(Edges::seven, "ofSlip: UNKNOWN; OUTSIDE");
        for (int no : new int[] {-1, 7, NONE, MIN, MAX}) {
            E.refused("ofSlip(" + no + ", 0)", x -> x.ofSlip(no, 0), UNKNOWN);
            E.refused("ofSlip(" + no + ", 8)", x -> x.ofSlip(no, 8), UNKNOWN);
        }
        for (int no : new int[] {-1, 8, MIN, MAX}) {
            E.refused("ofSlip(0, " + no + ")", x -> x.ofSlip(0, no), OUTSIDE);
            E.refused("ofSlip(6, " + no + ")", x -> x.ofSlip(6, no), OUTSIDE);
        }
        E.of(Edges::seven, "ofSlip: 0 kind .. 7 what it POINTS to");
        int[][] all = {
            {0, 10, 3, 5, 1, 2, 0, 10},
            {1, 20, 1, 3, 49, 2, 0, 21},
            {2, 25, 2, 4, NONE, NONE, 1, 50},
            {0, 49, 5, NONE, 49, 1, 0, 49},
            {2, 49, 0, 4, NONE, NONE, 0, 98},
            {1, 0, 9, NONE, 1, 1, 0, 1},
            {0, 7, 7, 0, NONE, NONE, 1, 7}};
        for (int k = 0; k < 7; k++) {
            for (int what = 0; what < 8; what++) {
                int slip = k;
                int w = what;
                E.onlyTells("ofSlip(" + k + ", " + w + ")", x -> x.ofSlip(slip, w), all[k][w]);
            }
        }
    }

    private static void want() {
        E.of(Edges::seven, "want: ASKED of a SLIP becomes v (0 .. 9): what it was. UNKNOWN; OUTSIDE");
        for (int no : new int[] {-1, 7, NONE, MIN, MAX}) {
            E.refused("want(" + no + ", 0)", x -> x.want(no, 0), UNKNOWN);
            E.refused("want(" + no + ", 10)", x -> x.want(no, 10), UNKNOWN);
        }
        for (int no : new int[] {-1, 10, NONE, MIN, MAX}) {
            E.refused("want(0, " + no + ")", x -> x.want(0, no), OUTSIDE);
            E.refused("want(6, " + no + ")", x -> x.want(6, no), OUTSIDE);
        }
        for (int v : new int[] {0, 1, 8, 9}) {
            E.answers("want(0, " + v + ")", x -> x.want(0, v), 3);
            E.answers("want(6, " + v + ") of a WET one", x -> x.want(6, v), 7);
            E.answers("ASKED behind want(0, " + v + ")", x -> x.want(0, v) - 3 + x.ofSlip(0, 2), v);
            E.answers("want() behind want(6, " + v + ")", x -> x.want(6, v) - 7 + x.want(6, 5), v);
            E.answers("ASKED of another", x -> x.want(0, v) - 3 + x.ofSlip(1, 2), 1);
        }
    }

    private static void see() {
        E.of(Edges::seven, "see: UNKNOWN: k; UNKNOWN: to is neither a SLIP nor NONE");
        for (int no : new int[] {-1, 7, NONE, MIN, MAX}) {
            E.refused("see(" + no + ", 0)", x -> x.see(no, 0), UNKNOWN);
            E.refused("see(" + no + ", NONE)", x -> x.see(no, NONE), UNKNOWN);
        }
        for (int no : new int[] {-1, 7, 9, -8, -10, MIN, MAX}) {
            E.refused("see(0, " + no + ")", x -> x.see(0, no), UNKNOWN);
        }
        E.of(Edges::seven, "see: A SLIP SEES another one, itself, none (NONE): which it did (NONE)");
        for (int to : new int[] {NONE, 0, 1, 5, 6}) {
            E.answers("see(0, " + to + ")", x -> x.see(0, to), 5);
            E.answers("see(5, " + to + ")", x -> x.see(5, to), NONE);
            E.answers("see(4, " + to + ")", x -> x.see(4, to), 4);
            E.answers("see(6, " + to + ") of a WET one", x -> x.see(6, to), 0);
            E.answers("SEE behind see(0, " + to + ")", x -> x.see(0, to) - 5 + x.ofSlip(0, 3), to);
            E.answers("see() behind see(0, " + to + ")", x -> x.see(0, to) - 5 + x.see(0, 2), to);
            E.answers("SEE of another", x -> x.see(0, to) - 5 + x.ofSlip(1, 3), 3);
        }
        E.of(Edges::two, "see: of two SLIPS");
        E.refused("see(1, 2)", x -> x.see(1, 2), UNKNOWN);
        E.refused("see(2, 1)", x -> x.see(2, 1), UNKNOWN);
        E.answers("see(1, 1)", x -> x.see(1, 1), 0);
        E.answers("LEAF of one that SEES itself", x -> x.see(1, 1) + x.ofSlip(1, 4), NONE);
    }
}
