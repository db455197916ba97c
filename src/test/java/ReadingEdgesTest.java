/** The edges that the document names of promises 15 to 20, and of part 4 of its terms; a test for each sentence. */
public final class ReadingEdgesTest {
    private static final Edges E = new Edges();
    private static final int UNKNOWN = Edges.UNKNOWN, OUTSIDE = Edges.OUTSIDE, FULL = Edges.FULL, NONE = Edges.NONE;
    private static final int MIN = Edges.MIN, MAX = Edges.MAX;
    private static final int[] NO_SLIPS = {-1, 7, NONE, MIN, MAX};

    public static void main(String[] args) {
        readingOfNoSlip();
        readingOfNoLeaf();
        eightReadingsAtMost();
        readingsRefusedInTheirOrder();
        numberedByHowManyThereAre();
        backOfTooMany();
        backOfTheLast();
        backWithoutBook();
        pagesOfNoSlip();
        pagesOfNoSuchWhat();
        pagesFromZeroToFortyNine();
        pagesOfNone();
        pagesOfEachKind();
        kindsOfNoSlip();
        kindsAsASet();
        seenOfNoSlip();
        seenAsASet();
        seenSevenForNone();
        inPlaceOfWhatItIsAlone();
        allReadingsAreSo();
        readingsToNone();
        byHowAllIsNow();
        oddsOfNoLeaf();
        oddsOfNoSuchWhich();
        oddsWithoutBook();
        oddsOfNothingAskedFor();
        oddsInLeastTerms();
        oddsOfThoseThatLeadNowhere();
        E.end();
    }

    // ---- reading, back

    private static void readingOfNoSlip() {
        E.of(Edges::seven, "reading: UNKNOWN");
        for (int no : NO_SLIPS) {
            E.refused("reading(" + no + ", 0)", x -> x.reading(no, 0), UNKNOWN);
        }
        E.answers("reading(0, 0)", x -> x.reading(0, 0), 3);
        E.answers("reading(6, 0)", x -> x.reading(6, 0), 3);
        E.of(Edges::two, "reading: UNKNOWN, of two SLIPS");
        E.refused("reading(2, 0)", x -> x.reading(2, 0), UNKNOWN);
        E.answers("reading(1, 0)", x -> x.reading(1, 0), 0);
    }

    private static void readingOfNoLeaf() {
        E.of(Edges::seven, "reading: OUTSIDE: v (0 .. 98, NONE)");
        for (int no : new int[] {-1, 99, -8, -10, MIN, MAX}) {
            E.refused("reading(0, " + no + ")", x -> x.reading(0, no), OUTSIDE);
        }
        for (int v : new int[] {0, 1, 97, 98, NONE}) {
            E.answers("reading(0, " + v + ")", x -> x.reading(0, v), 3);
            E.answers("many(3)", x -> x.reading(0, v) - 3 + x.many(3), 4);
        }
    }

    private static void eightReadingsAtMost() {
        E.of(Edges::read, "READINGS, 8 at most. FULL");
        E.refused("a ninth", x -> x.reading(0, 1), FULL);
        E.refused("a ninth, that is so already", x -> x.reading(6, NONE), FULL);
        E.answers("an eighth, one taken back", x -> x.back(1) - 7 + x.reading(0, 1), 7);
        E.answers("a ninth behind it", x -> x.back(1) - 7 + x.reading(0, 1) - 7 + x.reading(0, 1), FULL);
        E.answers("many(3)", x -> x.many(3), 8);
    }

    private static void readingsRefusedInTheirOrder() {
        E.of(Edges::read, "REFUSALS, in the order in which a call's line tells them (reading)");
        E.refused("UNKNOWN ahead of OUTSIDE, FULL", x -> x.reading(7, 99), UNKNOWN);
        E.refused("UNKNOWN ahead of FULL", x -> x.reading(-1, 0), UNKNOWN);
        E.refused("OUTSIDE ahead of FULL", x -> x.reading(0, 99), OUTSIDE);
        E.of(Edges::seven, "REFUSALS, in the order in which a call's line tells them (reading)");
        E.refused("UNKNOWN ahead of OUTSIDE", x -> x.reading(7, 99), UNKNOWN);
    }

    private static void numberedByHowManyThereAre() {
        E.of(Edges::two, "READINGS, numbered by how many there are");
        WorldIndex x = Edges.two();
        for (int r = 0; r < 8; r++) {
            E.due("many(3)", x.many(3), r);
            E.due("reading", x.reading(r % 2, 12), r);
        }
        E.due("many(3)", x.many(3), 8);
        E.due("back(5)", x.back(5), 3);
        E.due("reading", x.reading(0, 12), 3);
    }

    private static void backOfTooMany() {
        E.of(Edges::seven, "back: The last n READINGS (0 .. as many as there are). OUTSIDE");
        for (int no : new int[] {-1, 4, 8, 9, NONE, MIN, MAX}) {
            E.refused("back(" + no + ")", x -> x.back(no), OUTSIDE);
        }
        E.onlyTells("back(0)", x -> x.back(0), 3);
        E.answers("back(1)", x -> x.back(1), 2);
        E.answers("back(3)", x -> x.back(3), 0);
        E.answers("back(1) of none", x -> x.back(3) + x.back(1), OUTSIDE);
        E.answers("back(0) of none", x -> x.back(3) + x.back(0), 0);
        E.of(Edges::read, "back: of 8");
        E.refused("back(9)", x -> x.back(9), OUTSIDE);
        E.answers("back(8)", x -> x.back(8), 0);
        E.answers("many(3)", x -> x.back(8) + x.many(3), 0);
    }

    private static void backOfTheLast() {
        E.of(() -> readThrice(), "back: The last n READINGS are taken back");
        // 0 leads to 12 is so, to 13 and 14 is not
        E.answers("pages(0, 1) of three", x -> x.pages(0, 1), NONE);
        E.answers("pages(0, 1) of two", x -> x.back(1) - 2 + x.pages(0, 1), NONE);
        E.answers("pages(0, 1) of the first", x -> x.back(2) - 1 + x.pages(0, 1), 12);
        E.answers("pages(0, 0) of none", x -> x.back(3) + x.pages(0, 0), 50);
        E.answers("pages(0, 1) of another", x -> x.back(3) + x.reading(0, 20) + x.pages(0, 1), 20);
    }

    private static WorldIndex readThrice() {
        WorldIndex x = Edges.two();
        x.reading(0, 12);
        x.reading(0, 13);
        x.reading(0, 14);
        return x;
    }

    private static void backWithoutBook() {
        E.of(Edges::bookless, "back: OUTSIDE (no STATE is told)");
        E.onlyTells("back(0)", x -> x.back(0), 0);
        E.refused("back(1)", x -> x.back(1), OUTSIDE);
        E.refused("back(-1)", x -> x.back(-1), OUTSIDE);
    }

    // ---- pages, kinds, seen

    private static void pagesOfNoSlip() {
        E.of(Edges::seven, "pages: UNKNOWN");
        for (int no : NO_SLIPS) {
            E.refused("pages(" + no + ", 0)", x -> x.pages(no, 0), UNKNOWN);
            E.refused("pages(" + no + ", 3)", x -> x.pages(no, 3), UNKNOWN);
        }
        E.onlyTells("pages(0, 0)", x -> x.pages(0, 0), 50);
        E.onlyTells("pages(6, 0)", x -> x.pages(6, 0), 50);
        E.of(Edges::two, "pages: UNKNOWN, of two SLIPS");
        E.refused("pages(2, 0)", x -> x.pages(2, 0), UNKNOWN);
    }

    private static void pagesOfNoSuchWhat() {
        E.of(Edges::seven, "pages: how many (what 0), the least (1), the greatest (2). OUTSIDE");
        for (int no : new int[] {-1, 3, MIN, MAX}) {
            E.refused("pages(0, " + no + ")", x -> x.pages(0, no), OUTSIDE);
            E.refused("pages(6, " + no + ")", x -> x.pages(6, no), OUTSIDE);
        }
        // 0 - 5, a DASH that leads to 1
        int[] due = {1, 0, 0};
        for (int what = 0; what < 3; what++) {
            int w = what;
            E.onlyTells("pages(5, " + w + ")", x -> x.pages(5, w), due[w]);
        }
    }

    private static void fits(String name, WorldIndex x, int k, int howMany, int least, int greatest) {
        E.due(name + ", how many", x.pages(k, 0), howMany);
        E.due(name + ", the least", x.pages(k, 1), least);
        E.due(name + ", the greatest", x.pages(k, 2), greatest);
    }

    private static WorldIndex read(String text, int... readings) {
        WorldIndex x = Check.withBook(text);
        for (int r = 0; r < readings.length; r += 2) {
            x.reading(readings[r], readings[r + 1]);
        }
        return x;
    }

    private static void pagesFromZeroToFortyNine() {
        E.of(Edges::two, "PAGES of a SLIP: 0 .. 49");
        fits("no READINGS", Edges.two(), 0, 50, 0, 49);
        fits("a LINE to 0", read("i;l1239;d0549", 0, 0), 0, 1, 0, 0);
        fits("a LINE to 49", read("i;l1239;d0549", 0, 49), 0, 1, 49, 49);
        fits("a LINE to 50", read("i;l1239;d0549", 0, 50), 0, 0, NONE, NONE);
    }

    private static void pagesOfNone() {
        E.of(() -> read("i;l1239;d0549", 0, 98), "pages: NONE (of 1, 2): there are none");
        E.onlyTells("how many", x -> x.pages(0, 0), 0);
        E.onlyTells("the least", x -> x.pages(0, 1), NONE);
        E.onlyTells("the greatest", x -> x.pages(0, 2), NONE);
        E.onlyTells("kinds", x -> x.kinds(0), 0);
        E.onlyTells("seen", x -> x.seen(0), 0);
    }

    private static void pagesOfEachKind() {
        E.of(Edges::two, "PAGES, by what a SLIP POINTS to");
        fits("a DASH to 0", read("i;l1239;d0549", 1, 0), 1, 0, NONE, NONE);
        fits("a DASH to 1", read("i;l1239;d0549", 1, 1), 1, 1, 0, 0);
        fits("a DASH to 50", read("i;l1239;d0549", 1, 50), 1, 1, 49, 49);
        fits("a DASH to 51", read("i;l1239;d0549", 1, 51), 1, 0, NONE, NONE);
        fits("a BOLD one to 0", read("i;l1239;b0549", 1, 0), 1, 1, 0, 0);
        fits("a BOLD one to 1", read("i;l1239;b0549", 1, 1), 1, 0, NONE, NONE);
        fits("a BOLD one to 97", read("i;l1239;b0549", 1, 97), 1, 0, NONE, NONE);
        fits("a BOLD one to 98", read("i;l1239;b0549", 1, 98), 1, 1, 49, 49);
        fits("one that SEES another, that is so", read("i;l1239;b0540", 1, 12), 1, 50, 0, 49);
        fits("one that SEES another, that is not so", read("i;l1239;b0540", 1, 13), 1, 0, NONE, NONE);
    }

    private static void kindsOfNoSlip() {
        E.of(Edges::seven, "kinds: UNKNOWN");
        for (int no : NO_SLIPS) {
            E.refused("kinds(" + no + ")", x -> x.kinds(no), UNKNOWN);
        }
        E.onlyTells("kinds(0)", x -> x.kinds(0), 7);
        E.onlyTells("kinds(6)", x -> x.kinds(6), 7);
        E.onlyTells("kinds(3)", x -> x.kinds(3), 1);
        E.onlyTells("kinds(5)", x -> x.kinds(5), 2);
        E.of(Edges::two, "kinds: UNKNOWN, of two SLIPS");
        E.refused("kinds(2)", x -> x.kinds(2), UNKNOWN);
    }

    private static void kindsAsASet() {
        E.of(Edges::fresh, "KINDS of a SLIP: 0 .. 2, as sets");
        // PAGE 0: LINE 0, DASH 1, BOLD 0; PAGE 1: 1, 2, 2; PAGE 49: 49, 50, 98
        String text = "i;l0009;d0109;b4909";
        int[][] due = {
            {0, 0, 5}, {0, 1, 2}, {0, 2, 0}, {1, 0, 0}, {1, 1, 1}, {1, 2, 6}, {1, 3, 0},
            {2, 48, 0}, {2, 49, 1}, {2, 50, 2}, {2, 51, 0}, {2, 97, 0}, {2, 98, 4}, {2, NONE, 0}};
        for (int[] d : due) {
            WorldIndex x = read(text, d[0], d[1]);
            E.due("kinds(" + d[0] + "), that led to " + d[1], x.kinds(d[0]), d[2]);
        }
        E.due("kinds(0) of no READINGS", read(text).kinds(0), 7);
        E.due("kinds(0) of READINGS of another", read(text, 1, 2).kinds(0), 7);
        E.due("kinds(0) of READINGS of another that are not so", read(text, 1, 3).kinds(0), 0);
    }

    private static void seenOfNoSlip() {
        E.of(Edges::seven, "seen: UNKNOWN");
        for (int no : NO_SLIPS) {
            E.refused("seen(" + no + ")", x -> x.seen(no), UNKNOWN);
        }
        E.onlyTells("seen(0)", x -> x.seen(0), 32);
        E.onlyTells("seen(6)", x -> x.seen(6), 255);
        E.of(Edges::two, "seen: UNKNOWN, of two SLIPS");
        E.refused("seen(2)", x -> x.seen(2), UNKNOWN);
        E.onlyTells("seen(1)", x -> x.seen(1), 128 + 3);
    }

    private static void seenAsASet() {
        E.of(Edges::fresh, "SEEN of a SLIP: SLIPS that it SEES, as sets");
        StringBuilder text = new StringBuilder("i;l0009");
        for (int n = 2; n <= 7; n++) {
            text.append(";l0009");
            for (int k = 0; k < n; k++) {
                E.due("seen(" + k + ") of " + n, Check.withBook(text.toString()).seen(k), 128 + (1 << n) - 1);
            }
            // all POINT to 0, so only SEEING itself leads to no LEAF
            WorldIndex x = read(text.toString(), 0, 0);
            E.due("seen(0), that led to 0, of " + n, x.seen(0), 128 + (1 << n) - 2);
            WorldIndex y = read(text.toString(), n - 1, NONE);
            E.due("seen of the last, that led to none, of " + n, y.seen(n - 1), 1 << (n - 1));
        }
    }

    private static void seenSevenForNone() {
        E.of(Edges::fresh, "SEEN of a SLIP: 7 for none");
        String text = "i;l1011;l1119;l1219;l1319;l1419;l1519;l1619";
        E.due("0 led to what it POINTS to", read(text, 0, 10).seen(0), 128);
        E.due("0 led to what 1 does", read(text, 0, 11).seen(0), 2);
        E.due("0 led to what 6 does", read(text, 0, 16).seen(0), 64);
        E.due("0 led to none", read(text, 0, NONE).seen(0), 1);
        E.due("6 led to what 5 does", read(text, 6, 15).seen(6), 32);
        E.due("6 led to what 0, 1 do", read(text, 6, 11).seen(6), 3);
        E.due("6 led to what it POINTS to", read(text, 6, 16).seen(6), 128);
    }

    private static void inPlaceOfWhatItIsAlone() {
        E.of(Edges::seven, "All that follows: in place of what it is alone (nothing is changed)");
        for (int slip = 0; slip < 7; slip++) {
            int k = slip;
            E.onlyTells("pages(" + k + ", 1)", x -> x.pages(k, 1), k == 3 ? 49 : 0);
            E.onlyTells("pages(" + k + ", 2)", x -> x.pages(k, 2), k == 5 ? 0 : 49);
            E.onlyTells("kinds(" + k + ")", x -> x.kinds(k), k == 3 ? 1 : k == 5 ? 2 : 7);
        }
        // what it SEES stays when the PAGE is another, and its PAGE when what it SEES is
        E.due("seen by its own PAGE", read("i;l1011;l1119", 0, 10).seen(0), 128);
        E.due("pages by what it SEES", read("i;l1011;l1119", 0, 10).pages(0, 0), 0);
        E.due("kinds by its own PAGE", read("i;l1019;l1119", 0, 20).kinds(0), 4);
    }

    private static void allReadingsAreSo() {
        E.of(Edges::two, "by which all READINGS are so");
        fits("two of one SLIP alike", read("i;l1239;d0540", 0, 20, 0, 20), 0, 1, 20, 20);
        fits("two of one SLIP unlike", read("i;l1239;d0540", 0, 20, 0, 21), 0, 0, NONE, NONE);
        fits("of it and of one that SEES it", read("i;l1239;d0540", 0, 20, 1, 20), 0, 1, 20, 20);
        fits("of it and of one that SEES it, unlike", read("i;l1239;d0540", 0, 20, 1, 6), 0, 0, NONE, NONE);
        E.due("seen by both", read("i;l1239;d0540", 0, 12, 1, 6).seen(1), 128);
        fits("the first of eight", read("i;l1239;d0549", 0, 13, 1, 6, 1, 6, 1, 6, 1, 6, 1, 6, 1, 6, 1, 6), 0, 1, 13, 13);
        fits("the last of eight", read("i;l1239;d0549", 1, 6, 1, 6, 1, 6, 1, 6, 1, 6, 1, 6, 1, 6, 0, 13), 0, 1, 13, 13);
        E.due("kinds by the last of eight", read("i;l1239;d0549", 1, 6, 1, 6, 1, 6, 1, 6, 1, 6, 1, 6, 1, 6, 0, 13).kinds(0), 2);
    }

    private static void readingsToNone() {
        E.of(Edges::two, "a question for a SLIP led to a LEAF, to none (NONE)");
        fits("to none, though it leads to one", read("i;l1239;d0540", 0, NONE), 0, 0, NONE, NONE);
        fits("to none, as it does", read("i;l1230;d0540", 0, NONE), 0, 50, 0, 49);
        E.due("seen by both to none", read("i;l1239;d0540", 0, NONE, 1, NONE).seen(0), 3);
        E.due("seen by one of them to none", read("i;l1239;d0540", 0, NONE, 1, 6).seen(1), 0);
        WorldIndex x = read("i;l1239;d0540", 1, NONE);
        x.wet(0);
        E.due("seen by a WET one", x.seen(1), 3);
        x.wet(1);
        E.due("seen of a WET one", x.seen(1), 131);
    }

    private static void byHowAllIsNow() {
        E.of(Edges::two, "(by how all is now)");
        WorldIndex x = read("i;l1239;d0540", 1, 12);
        fits("as it was read", x, 0, 1, 12, 12);
        x.wet(0);
        fits("WET now", x, 0, 0, NONE, NONE);
        x.dry(0);
        fits("DRIED now", x, 0, 1, 12, 12);
        x.see(1, NONE);
        fits("sent elsewhere now", x, 0, 0, NONE, NONE);
        fits("sent elsewhere now", x, 1, 1, 11, 11);
    }

    // ---- odds

    private static void oddsOfNoLeaf() {
        E.of(Edges::seven, "odds: ODDS of a LEAF (0 .. 98). LOST: OUTSIDE");
        for (int no : new int[] {-1, 99, NONE, MIN, MAX}) {
            E.refused("odds(" + no + ", 0)", x -> x.odds(no, 0), Edges.LOST);
            E.refused("odds(" + no + ", 1)", x -> x.odds(no, 1), Edges.LOST);
        }
        E.onlyTells("odds(0, 0)", x -> x.odds(0, 0), 0);
        E.onlyTells("odds(0, 1)", x -> x.odds(0, 1), 1);
        E.onlyTells("odds(98, 0)", x -> x.odds(98, 0), 0);
        E.onlyTells("odds(98, 1)", x -> x.odds(98, 1), 1);
        E.due("odds(98, 0) of one that leads to it", Check.withBook("i;b4919;l0019").odds(98, 0), 1);
        E.due("odds(98, 1) of one that leads to it", Check.withBook("i;b4919;l0019").odds(98, 1), 2);
        E.due("odds(0, 0) of one that leads to it", Check.withBook("i;b4919;l0029").odds(0, 0), 2);
        E.due("odds(0, 1) of one that leads to it", Check.withBook("i;b4919;l0029").odds(0, 1), 3);
    }

    private static void oddsOfNoSuchWhich() {
        E.of(Edges::seven, "odds: which 0 the upper, 1 the lower number. LOST: OUTSIDE");
        for (int no : new int[] {-1, 2, MIN, MAX}) {
            E.refused("odds(49, " + no + ")", x -> x.odds(49, no), Edges.LOST);
        }
        // ASKED 3, 1, 2, 5, 0, 9, 7: 1 and 3 lead to 49
        E.onlyTells("odds(49, 0)", x -> x.odds(49, 0), 2);
        E.onlyTells("odds(49, 1)", x -> x.odds(49, 1), 9);
    }

    private static void oddsWithoutBook() {
        E.of(Edges::bookless, "odds: LOST: STATE: there is no BOOK");
        E.refused("odds(0, 0)", x -> x.odds(0, 0), Edges.LOST);
        E.refused("odds(98, 1)", x -> x.odds(98, 1), Edges.LOST);
    }

    private static void oddsOfNothingAskedFor() {
        E.of(() -> Check.withBook("i;l0009;l0009"), "odds: LOST: STATE: nothing is ASKED for");
        E.refused("odds(0, 0)", x -> x.odds(0, 0), Edges.LOST);
        E.refused("odds(0, 1)", x -> x.odds(0, 1), Edges.LOST);
        E.answers("odds(0, 0), 1 ASKED for", x -> x.want(1, 1) + x.odds(0, 0), 1);
        E.answers("odds(0, 1), 1 ASKED for", x -> x.want(1, 1) + x.odds(0, 1), 1);
        E.answers("odds(1, 0), 1 ASKED for", x -> x.want(1, 1) + x.odds(1, 0), 0);
        E.answers("odds(1, 1), 1 ASKED for", x -> x.want(1, 1) + x.odds(1, 1), 1);
        E.answers("odds(0, 0), no longer", x -> lostAgain(x), Edges.LOST);
    }

    private static long lostAgain(WorldIndex x) {
        x.want(1, 1);
        x.want(1, 0);
        return x.odds(0, 0);
    }

    private static void odds(String text, int v, long upper, long lower) {
        E.due("upper of " + v + ", " + text, Check.withBook(text).odds(v, 0), upper);
        E.due("lower of " + v + ", " + text, Check.withBook(text).odds(v, 1), lower);
    }

    private static void oddsInLeastTerms() {
        E.of(Edges::fresh, "Shares are told as upper and lower number (above 0) in least terms");
        odds("i;l0099;l0199;l0299;l0399;l0499;l0599;l0699", 6, 1, 7);
        odds("i;b4999;b4999;b4999;b4999;b4999;b4999;b4999", 98, 1, 1);
        odds("i;l0099;l0199;l0299;l0399;l0499;l0599;l0689", 6, 4, 31);
        odds("i;l0099;l0199;l0299;l0399;l0499;l0599;l0689", 5, 9, 62);
        odds("i;l0019;l0119", 0, 1, 2);
        odds("i;l0029;l0149", 0, 1, 3);
        odds("i;l0049;l0169", 1, 3, 5);
        odds("i;l0069;l0169", 1, 1, 2);
        odds("i;l0009;l0199", 0, 0, 1);
        odds("i;l0009;l0199", 1, 1, 1);
        odds("i;l0079;l0159", 0, 7, 12);
    }

    private static void oddsOfThoseThatLeadNowhere() {
        E.of(Edges::fresh, "ODDS: if questions come as often as SLIPS are ASKED for, the share of those that lead to it");
        odds("i;l0039;l0131", 0, 1, 2);
        WorldIndex x = Check.withBook("i;l0039;l0130");
        E.due("upper, both lead to 0", x.odds(0, 0), 1);
        E.due("lower, both lead to 0", x.odds(0, 1), 1);
        x.wet(1);
        E.due("upper, 1 is WET", x.odds(0, 0), 1);
        E.due("lower, 1 is WET", x.odds(0, 1), 2);
        x.wet(0);
        E.due("upper, all are WET", x.odds(0, 0), 0);
        E.due("lower, all are WET", x.odds(0, 1), 1);
    }
}
