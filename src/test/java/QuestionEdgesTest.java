/** The edges that the document names of promises 6 to 10, and of part 2 of its terms; a test for each sentence. */
public final class QuestionEdgesTest {
    private static final Edges E = new Edges();
    private static final int UNKNOWN = Edges.UNKNOWN, OUTSIDE = Edges.OUTSIDE, STATE = Edges.STATE, NONE = Edges.NONE;
    private static final int MIN = Edges.MIN, MAX = Edges.MAX;
    private static final int[] NO_SLIPS = {-1, 7, NONE, MIN, MAX};

    public static void main(String[] args) {
        askOfNoSlip();
        askThatLeadsNowhere();
        askCountsAsAQuestion();
        wetOfNoSlip();
        wetOfAWetOne();
        wetOfAll();
        dryOfNoSlip();
        dryOfOneThatIsNotWet();
        dryOfTheLast();
        leadsOfNoLeaf();
        leadsAsASet();
        leadsWithoutBook();
        yearsOfNoSheet();
        yearsOfNoLane();
        yearsOfTooManyPairs();
        yearsOfNoSuchWhat();
        yearsCast();
        yearsOfNothing();
        yearsBeyondTheCells();
        yearsWithoutBook();
        yearsRefusedInTheirOrder();
        yearsOfNoSuchDeed();
        yearsOfNoSuchSlip();
        yearsPairByPair();
        yearsOfNoPairs();
        yearsFromNow();
        yearsThatGetWet();
        yearsThatAreDried();
        yearsThatSend();
        yearsFirstWrong();
        yearsThatGoOn();
        yearsOfAllQuestionsTogether();
        yearsOfASlipThen();
        yearsByLanes();
        E.end();
    }

    // ---- ask, wet, dry, leads

    private static void askOfNoSlip() {
        E.of(Edges::seven, "ask: UNKNOWN");
        for (int no : NO_SLIPS) {
            E.refused("ask(" + no + ")", x -> x.ask(no), UNKNOWN);
        }
        E.answers("ask(0)", x -> x.ask(0), 1);
        E.answers("ask(6)", x -> x.ask(6), NONE);
        E.of(Edges::two, "ask: UNKNOWN, of two SLIPS");
        E.refused("ask(2)", x -> x.ask(2), UNKNOWN);
        E.answers("ask(1)", x -> x.ask(1), 12);
    }

    private static void askThatLeadsNowhere() {
        E.of(Edges::seven, "ask: its LEAF; NONE");
        int[] due = {1, 49, NONE, 49, NONE, 1, NONE};
        for (int slip = 0; slip < 7; slip++) {
            int k = slip;
            E.answers("ask(" + k + ")", x -> x.ask(k), due[k]);
        }
    }

    private static void askCountsAsAQuestion() {
        E.of(Edges::seven, "many: 1 questions (by ask())");
        E.answers("many(1)", x -> x.many(1), 3);
        E.answers("many(1) behind ask(0)", x -> x.ask(0) - 1 + x.many(1), 4);
        E.answers("many(1) behind ask(2), that is WET", x -> x.ask(2) + 9 + x.many(1), 4);
        E.answers("many(1) behind ask(4), that goes round", x -> x.ask(4) + 9 + x.many(1), 4);
        E.answers("many(1) behind ask(7)", x -> x.ask(7) + 1 + x.many(1), 3);
        E.answers("many(1) behind questions of YEARS", x -> questionsBehindYears(x), 3);
    }

    private static int questionsBehindYears(WorldIndex x) {
        // cells 2, 3 of SHEET 1: a question for SLIP 2
        x.years(1, 1, 2, 1, 2);
        return x.many(1);
    }

    private static void wetOfNoSlip() {
        E.of(Edges::seven, "wet: UNKNOWN");
        for (int no : NO_SLIPS) {
            E.refused("wet(" + no + ")", x -> x.wet(no), UNKNOWN);
        }
        E.answers("wet(0)", x -> x.wet(0), 3);
        E.answers("wet(5)", x -> x.wet(5), 3);
        E.of(Edges::two, "wet: UNKNOWN, of two SLIPS");
        E.refused("wet(2)", x -> x.wet(2), UNKNOWN);
        E.answers("wet(1)", x -> x.wet(1), 1);
    }

    private static void wetOfAWetOne() {
        E.of(Edges::seven, "wet: STATE: it is");
        E.refused("wet(2)", x -> x.wet(2), STATE);
        E.refused("wet(6)", x -> x.wet(6), STATE);
        E.answers("wet(6), DRIED ahead of it", x -> x.dry(6) - 1 + x.wet(6), 2);
    }

    private static void wetOfAll() {
        E.of(Edges::fresh, "wet: A SLIP gets WET: how many are");
        WorldIndex x = Check.withBook(Check.SEVEN);
        for (int k = 0; k < 7; k++) {
            E.due("wet(" + k + ")", x.wet(k), k + 1);
            E.due("many(2)", x.many(2), k + 1);
            E.due("whether " + k + " is WET", x.ofSlip(k, 6), 1);
        }
        for (int k = 0; k < 7; k++) {
            E.due("wet(" + k + ") again", x.wet(k), STATE);
            E.due("LEAF of " + k, x.ofSlip(k, 4), NONE);
        }
        E.due("many(2)", x.many(2), 7);
    }

    private static void dryOfNoSlip() {
        E.of(Edges::seven, "dry: UNKNOWN");
        for (int no : NO_SLIPS) {
            E.refused("dry(" + no + ")", x -> x.dry(no), UNKNOWN);
        }
        E.of(Edges::two, "dry: UNKNOWN, of two SLIPS");
        E.refused("dry(2)", x -> x.dry(2), UNKNOWN);
        E.refused("dry(1)", x -> x.dry(1), STATE);
    }

    private static void dryOfOneThatIsNotWet() {
        E.of(Edges::seven, "dry: STATE: it is not WET");
        for (int dry : new int[] {0, 1, 3, 4, 5}) {
            E.refused("dry(" + dry + ")", x -> x.dry(dry), STATE);
        }
        E.answers("dry(2)", x -> x.dry(2), 1);
        E.answers("dry(6)", x -> x.dry(6), 1);
        E.answers("dry(6) again", x -> x.dry(6) - 1 + x.dry(6), STATE);
    }

    private static void dryOfTheLast() {
        E.of(Edges::seven, "dry: A SLIP is DRIED: how many are WET yet");
        E.answers("dry(2), dry(6)", x -> x.dry(2) - 1 + x.dry(6), 0);
        E.answers("whether 6 is WET", x -> x.dry(6) - 1 + x.ofSlip(6, 6), 0);
        E.answers("whether 2 is WET", x -> x.dry(6) - 1 + x.ofSlip(2, 6), 1);
        E.answers("LEAF of 6", x -> x.dry(6) - 1 + x.ofSlip(6, 4), 1);
        E.answers("many(2)", x -> x.dry(6) - 1 + x.many(2), 1);
    }

    private static void leadsOfNoLeaf() {
        E.of(Edges::seven, "leads: SLIPS whose LEAF is v (0 .. 98). OUTSIDE");
        for (int no : new int[] {-1, 99, NONE, MIN, MAX}) {
            E.refused("leads(" + no + ")", x -> x.leads(no), OUTSIDE);
        }
        for (int v = 0; v <= 98; v++) {
            int leaf = v;
            E.answers("leads(" + v + ")", x -> x.leads(leaf), v == 1 ? 33 : v == 49 ? 10 : 0);
        }
    }

    private static void leadsAsASet() {
        E.of(() -> Check.withBook("i;b0019;l0019;b0019;l0019;b4919;b4919;b4919"), "Sets are told as bits (leads)");
        E.onlyTells("leads(0)", x -> x.leads(0), 15);
        E.onlyTells("leads(98)", x -> x.leads(98), 112);
        E.onlyTells("leads(97)", x -> x.leads(97), 0);
        E.onlyTells("leads(1)", x -> x.leads(1), 0);
    }

    private static void leadsWithoutBook() {
        E.of(Edges::bookless, "leads: OUTSIDE; STATE: there is no BOOK");
        E.refused("leads(0)", x -> x.leads(0), STATE);
        E.refused("leads(98)", x -> x.leads(98), STATE);
        E.refused("leads(99)", x -> x.leads(99), OUTSIDE);
        E.refused("leads(-1)", x -> x.leads(-1), OUTSIDE);
    }

    // ---- years: what is refused

    private static void yearsOfNoSheet() {
        E.of(Edges::seven, "years: UNKNOWN: SHEET");
        for (int no : new int[] {-1, 4, MIN, MAX}) {
            E.refusedOfFaults("years(" + no + ", ..)", x -> x.years(no, 0, 0, 0, 0), UNKNOWN);
            E.refusedOfFaults("years(" + no + ", 3, -1, 21, 4)", x -> x.years(no, 3, -1, 21, 4), UNKNOWN);
        }
        E.answersAndLeavesAll("years(0, ..)", x -> x.years(0, 0, 0, 0, 0), 0);
        E.answersAndLeavesAll("years(2, ..)", x -> x.years(2, 2, 0, 0, 0), 0);
        E.of(QuestionEdgesTest::withFour, "years: of SHEET 3");
        E.answersAndLeavesAll("years(3, ..)", x -> x.years(3, 2, 0, 0, 3), 68);
    }

    private static WorldIndex withFour() {
        WorldIndex x = Edges.seven();
        x.sheet(3, 2, 60);
        return x;
    }

    private static void yearsOfNoLane() {
        E.of(Edges::seven, "years: OUTSIDE: lane");
        for (int no : new int[] {-1, 3, MIN, MAX}) {
            E.refusedOfFaults("years(1, " + no + ", ..)", x -> x.years(1, no, 0, 0, 0), OUTSIDE);
            E.refusedOfFaults("years(3, " + no + ", ..)", x -> x.years(3, no, 0, 0, 0), OUTSIDE);
        }
    }

    private static void yearsOfTooManyPairs() {
        E.of(QuestionEdgesTest::withFour, "years: OUTSIDE: n (0 .. 20)");
        for (int no : new int[] {-1, 21, 30, MIN, MAX, 1 << 30}) {
            E.refusedOfFaults("years(3, 2, 0, " + no + ", 0)", x -> x.years(3, 2, 0, no, 0), OUTSIDE);
        }
        for (int n : new int[] {0, 1, 19, 20}) {
            E.answersAndLeavesAll("years(3, 2, 0, " + n + ", 2)", x -> x.years(3, 2, 0, n, 2), n);
        }
    }

    private static void yearsOfNoSuchWhat() {
        E.of(Edges::seven, "years: OUTSIDE: what (0 .. 3, 10 .. 16)");
        for (int no : new int[] {-1, 4, 5, 8, 9, 17, 18, NONE, MIN, MAX}) {
            E.refusedOfFaults("years(1, 1, 0, 0, " + no + ")", x -> x.years(1, 1, 0, 0, no), OUTSIDE);
        }
        int[] whats = {0, 1, 2, 3, 10, 11, 12, 13, 14, 15, 16};
        int[] due = {0, NONE, 0, 68, 1, 49, NONE, 49, NONE, 1, NONE};
        for (int w = 0; w < whats.length; w++) {
            int what = whats[w];
            E.answersAndLeavesAll("years(1, 1, 0, 0, " + what + ")", x -> x.years(1, 1, 0, 0, what), due[w]);
        }
    }

    private static void yearsCast() {
        E.of(Edges::seven, "years: FAULTS CAST");
        for (int sheet = 0; sheet < 3; sheet++) {
            for (int lane = 0; lane < 3; lane++) {
                int k = sheet;
                int l = lane;
                if (k != l) {
                    E.faulted("years(" + k + ", " + l + ", 0, 0, 0)", x -> x.years(k, l, 0, 0, 0), Edges.CAST);
                    E.faulted("years(" + k + ", " + l + ", -1, 20, 0)", x -> x.years(k, l, -1, 20, 0), Edges.CAST);
                }
            }
        }
    }

    private static void yearsOfNothing() {
        E.of(Edges::seven, "years: FAULTS NULL");
        for (int lane = 0; lane < 3; lane++) {
            int l = lane;
            E.faulted("years(3, " + l + ", 0, 0, 0)", x -> x.years(3, l, 0, 0, 0), Edges.NULL);
            E.faulted("years(3, " + l + ", -1, 20, 0)", x -> x.years(3, l, -1, 20, 0), Edges.NULL);
        }
    }

    private static void yearsBeyondTheCells() {
        E.of(QuestionEdgesTest::withFour, "years: FAULTS INDEX (2 n cells from i on)");
        int[][] beyond = {{-1, 0}, {-1, 1}, {61, 0}, {60, 1}, {59, 1}, {57, 2}, {21, 20}, {60, 20}, {MIN, 0}, {MIN, 20},
            {MAX, 0}, {MAX, 1}, {MAX, 20}, {MAX - 39, 20}};
        for (int[] b : beyond) {
            E.faulted("years(3, 2, " + b[0] + ", " + b[1] + ", 0)", x -> x.years(3, 2, b[0], b[1], 0), Edges.INDEX);
        }
        int[][] inside = {{0, 0}, {60, 0}, {58, 1}, {56, 2}, {20, 20}, {0, 20}};
        for (int[] b : inside) {
            E.answersAndLeavesAll("years(3, 2, " + b[0] + ", " + b[1] + ", 2)", x -> x.years(3, 2, b[0], b[1], 2), b[1]);
        }
        E.of(Edges::seven, "years: FAULTS INDEX (an empty row)");
        E.answersAndLeavesAll("years(2, 2, 0, 0, 0)", x -> x.years(2, 2, 0, 0, 0), 0);
        E.faulted("years(2, 2, 1, 0, 0)", x -> x.years(2, 2, 1, 0, 0), Edges.INDEX);
        E.faulted("years(2, 2, 0, 1, 0)", x -> x.years(2, 2, 0, 1, 0), Edges.INDEX);
    }

    private static void yearsWithoutBook() {
        E.of(Edges::bookless, "years: STATE: there is no BOOK");
        E.refusedOfFaults("years(1, 1, 0, 0, 0)", x -> x.years(1, 1, 0, 0, 0), STATE);
        E.refusedOfFaults("years(1, 1, 0, 5, 16)", x -> x.years(1, 1, 0, 5, 16), STATE);
    }

    private static void yearsRefusedInTheirOrder() {
        E.of(Edges::bookless, "Of a call the first that is come to, in the order told (years)");
        E.refusedOfFaults("UNKNOWN ahead of OUTSIDE", x -> x.years(4, 3, -1, 21, 4), UNKNOWN);
        E.refusedOfFaults("OUTSIDE: lane, ahead of NULL", x -> x.years(3, 3, -1, 1, 0), OUTSIDE);
        E.refusedOfFaults("OUTSIDE: n, ahead of CAST", x -> x.years(1, 0, -1, 21, 0), OUTSIDE);
        E.refusedOfFaults("OUTSIDE: n, is no SIZE", x -> x.years(1, 1, 0, -1, 0), OUTSIDE);
        E.refusedOfFaults("OUTSIDE: what, ahead of INDEX", x -> x.years(1, 1, -1, 1, 4), OUTSIDE);
        E.faulted("CAST ahead of INDEX", x -> x.years(1, 0, -1, 1, 0), Edges.CAST);
        E.faulted("NULL ahead of INDEX", x -> x.years(3, 0, -1, 1, 0), Edges.NULL);
        E.faulted("CAST ahead of STATE", x -> x.years(1, 0, 0, 1, 0), Edges.CAST);
        E.faulted("NULL ahead of STATE", x -> x.years(3, 0, 0, 1, 0), Edges.NULL);
        E.faulted("INDEX ahead of STATE", x -> x.years(1, 1, 9, 1, 0), Edges.INDEX);
        // cells 0, 1 of SHEET 1 are 300, -300: neither a SLIP nor what may happen to one
        E.refusedOfFaults("STATE ahead of OUTSIDE: the second", x -> x.years(1, 1, 0, 1, 0), STATE);
        E.of(Edges::seven, "Of a call the first that is come to, in the order told (years, pairs)");
        E.faulted("INDEX ahead of OUTSIDE: the second", x -> x.years(1, 1, 0, 6, 0), Edges.INDEX);
        E.refusedOfFaults("OUTSIDE: the second, ahead of UNKNOWN", x -> x.years(1, 1, 0, 1, 0), OUTSIDE);
    }

    /** Seven SLIPS that nothing happened to; pairs on ints of SHEET 1. */
    private static Edges.Room told(int... pairs) {
        return () -> {
            WorldIndex x = Check.withBook(Check.SEVEN);
            Check.fill(x, 1, 2, pairs);
            return x;
        };
    }

    private static void refusedPairs(int want, int... pairs) {
        E.of(told(pairs), "years: pair by pair OUTSIDE: the second is none of 0 .. 2, 10 .. 19; UNKNOWN: the first");
        for (int what : new int[] {0, 1, 2, 3, 10, 16}) {
            E.refusedOfFaults("years of " + pairs[0] + ", " + pairs[1] + " ..",
                x -> x.years(1, 2, 0, pairs.length / 2, what), want);
        }
    }

    private static void years(String words, int[] pairs, int... due) {
        E.of(told(pairs), words);
        int[] whats = {0, 1, 2, 3, 10, 11, 12, 13, 14, 15, 16};
        for (int w = 0; w < due.length; w++) {
            int what = whats[w];
            E.answersAndLeavesAll("years, what " + what, x -> x.years(1, 2, 0, pairs.length / 2, what), due[w]);
        }
    }

    private static int[] pairs(int... pairs) {
        return pairs;
    }

    private static void yearsOfNoSuchDeed() {
        for (int no : new int[] {-1, 3, 9, 20, NONE, 256, MIN, MAX}) {
            refusedPairs(OUTSIDE, 0, no);
            refusedPairs(OUTSIDE, 6, no);
        }
        for (int deed : new int[] {0, 1, 10, 11, 18, 19}) {
            years("years: the second is one of 0 .. 2, 10 .. 19", pairs(0, deed), deed == 0 ? 1 : 0, NONE);
        }
        years("years: the second is one of 0 .. 2, 10 .. 19", pairs(0, 2), 0, 0);
    }

    private static void yearsOfNoSuchSlip() {
        for (int no : new int[] {-1, 7, NONE, 256, MIN, MAX}) {
            refusedPairs(UNKNOWN, no, 0);
            refusedPairs(UNKNOWN, no, 1);
            refusedPairs(UNKNOWN, no, 2);
            refusedPairs(UNKNOWN, no, 19);
        }
        years("years: the first is a SLIP", pairs(6, 0), 1, NONE, 1, 0);
        years("years: the first is a SLIP", pairs(0, 0), 1, NONE, 1, 0);
        E.of(() -> withPairsOfTwo(1, 0), "years: the first is a SLIP, of two");
        E.answersAndLeavesAll("SLIP 1", x -> x.years(1, 0, 0, 1, 0), 12);
        E.of(() -> withPairsOfTwo(2, 0), "years: UNKNOWN: the first is no SLIP, of two");
        E.refusedOfFaults("SLIP 2", x -> x.years(1, 0, 0, 1, 0), UNKNOWN);
    }

    private static WorldIndex withPairsOfTwo(int... pairs) {
        WorldIndex x = Edges.two();
        Check.fill(x, 1, 0, pairs);
        return x;
    }

    private static void yearsPairByPair() {
        refusedPairs(OUTSIDE, 7, 3);
        refusedPairs(UNKNOWN, 7, 0, 0, 3);
        refusedPairs(OUTSIDE, 0, 3, 7, 0);
        refusedPairs(UNKNOWN, 0, 0, 7, 0, 0, 3);
        refusedPairs(OUTSIDE, 0, 0, 0, 3, 7, 0);
        // also behind pairs that can't be, and as the last of them
        refusedPairs(UNKNOWN, 0, 2, 0, 2, 0, 1, 0, 0, 7, 0);
        refusedPairs(OUTSIDE, 0, 2, 0, 2, 0, 1, 0, 0, 6, 3);
        refusedPairs(OUTSIDE, 0, 0, 0, 0, 0, 0, 0, 0, 0, 0, 0, 0, 0, 0, 0, 0, 0, 0, 0, 0, 0, 0, 0, 0, 0, 0, 0, 0, 0, 0,
            0, 0, 0, 0, 0, 0, 0, 0, 0, 20);
        // one behind the last is not looked at
        E.of(told(0, 0, 7, 3), "years: YEARS of n pairs");
        E.answersAndLeavesAll("1 of 2 pairs", x -> x.years(1, 2, 0, 1, 0), 1);
        E.of(told(7, 3, 0, 0), "years: from i on");
        E.answersAndLeavesAll("the second of 2 pairs", x -> x.years(1, 2, 2, 1, 0), 1);
        E.of(told(7, 0, 0, 0), "years: from i on, an odd one");
        E.answersAndLeavesAll("cells 1 and 2", x -> x.years(1, 2, 1, 1, 0), 1);
    }

    private static void yearsOfNoPairs() {
        years("years: of no pairs", pairs(), 0, NONE, 0, 0, 1, 49, 49, 49, 49, 1, 1);
    }

    private static void yearsFromNow() {
        E.of(Edges::seven, "YEARS told: from how all is now (nothing is changed)");
        // SHEET 1 from 2 on: a question for 2, 3 gets WET, questions for 0, 1
        E.answersAndLeavesAll("what 0", x -> x.years(1, 1, 2, 4, 0), 1);
        E.answersAndLeavesAll("what 1", x -> x.years(1, 1, 2, 4, 1), 0);
        E.answersAndLeavesAll("what 2", x -> x.years(1, 1, 2, 4, 2), 1);
        E.answersAndLeavesAll("what 3", x -> x.years(1, 1, 2, 4, 3), 64 + 4 + 8);
        E.answersAndLeavesAll("what 13", x -> x.years(1, 1, 2, 4, 13), NONE);
        E.answers("what 0 again", x -> x.years(1, 1, 2, 4, 0) - 1 + x.years(1, 1, 2, 4, 0), 1);
        E.answers("what 1 again", x -> x.years(1, 1, 2, 4, 1) + x.years(1, 1, 2, 4, 1), 0);
        E.answers("what 2 again", x -> x.years(1, 1, 2, 4, 2) - 1 + x.years(1, 1, 2, 4, 2), 1);
        E.answers("what 1 of no pairs behind it", x -> x.years(1, 1, 2, 4, 1) + x.years(1, 1, 2, 0, 1), NONE);
        E.answers("what 3 of no pairs behind it", x -> x.years(1, 1, 2, 4, 0) - 1 + x.years(1, 1, 2, 0, 3), 68);
    }

    private static void yearsThatGetWet() {
        String words = "YEARS told: a SLIP and 1: it gets WET (it is not yet)";
        years(words, pairs(5, 1, 5, 0), 0, 1, 0, 32, NONE, 49, 49, 49, 49, NONE, NONE);
        years(words, pairs(5, 1), 0, NONE, 0, 32);
        years(words, pairs(5, 1, 5, 1), 0, 1, 0, 32, NONE, 49, 49, 49, 49, NONE, NONE);
        years(words, pairs(5, 1, 5, 2, 5, 1), 0, NONE, 0, 32);
        years(words, pairs(0, 1, 1, 1, 2, 1, 3, 1, 4, 1, 5, 1, 6, 1), 0, NONE, 0, 127);
    }

    private static void yearsThatAreDried() {
        String words = "YEARS told: a SLIP and 2: it is DRIED (it is WET)";
        years(words, pairs(5, 2), 0, 0, 0, 0, 1);
        years(words, pairs(5, 1, 5, 2), 0, NONE, 0, 0, 1);
        years(words, pairs(5, 1, 5, 2, 5, 2), 0, 2, 0, 0, 1);
        years(words, pairs(5, 1, 6, 2), 0, 1, 0, 32, NONE);
    }

    private static void yearsThatSend() {
        String words = "YEARS told: and 10 .. 19: it SEES the SLIP that is 10 less (none, if there is no such one)";
        years(words, pairs(4, 10, 4, 0), 1, NONE, 1, 0, 1, 49, 1, 49, 1, 1, 1);
        years(words, pairs(4, 16, 4, 0), 1, NONE, 1, 0, 1, 49, 1, 49, 1, 1, 1);
        for (int none = 17; none <= 19; none++) {
            years(words, pairs(4, none, 4, 0), 98, NONE, 1, 0, 1, 49, 98, 49, 98, 1, 1);
        }
        years(words, pairs(4, 14, 2, 0), 0, 1, 0, 0, 1, 49, NONE, 49, NONE, 1, 1);
        years(words, pairs(4, 1, 4, 15, 4, 2, 2, 0), 1, NONE, 1, 0, 1, 49, 1, 49, 1, 1, 1);
        E.of(() -> withPairsOfTwo(1, 11, 1, 12, 1, 0), words);
        E.answersAndLeavesAll("of two, sees 1", x -> x.years(1, 0, 0, 1, 11), NONE);
        E.answersAndLeavesAll("of two, 12 is none", x -> x.years(1, 0, 0, 2, 11), 6);
        E.answersAndLeavesAll("of two, 12 is none", x -> x.years(1, 0, 0, 3, 0), 6);
    }

    private static void yearsFirstWrong() {
        String words = "FIRST WRONG: the first of these by which a question leads to no LEAF, or that can't be";
        years(words, pairs(0, 0, 1, 0), 50, NONE);
        years(words, pairs(0, 2, 0, 0), 1, 0);
        years(words, pairs(0, 0, 0, 2, 0, 2), 1, 1);
        years(words, pairs(3, 1, 1, 0, 3, 1), 0, 1);
        years(words, pairs(5, 15, 0, 0), 0, 1);
        years(words, pairs(0, 0, 0, 0, 0, 0, 0, 0, 0, 0, 0, 0, 0, 0, 0, 0, 0, 0, 0, 0, 0, 0, 0, 0, 0, 0, 0, 0, 0, 0,
            0, 0, 0, 0, 0, 0, 0, 0, 0, 2), 19, 19, 19, 0);
        // sending one round is not wrong yet, nor is a WET one while it is not asked for
        years(words, pairs(5, 15, 3, 1), 0, NONE, 0, 8);
    }

    private static void yearsThatGoOn() {
        String words = "they go on, whatever it is (what can't be is left out)";
        years(words, pairs(0, 2, 0, 0, 3, 1, 3, 0, 3, 1, 3, 2, 3, 0), 50, 0, 2, 0, 1, 49, 49, 49, 49, 1, 1);
        years(words, pairs(5, 1, 5, 1, 5, 2, 5, 0), 1, 1, 1, 0, 1);
    }

    private static void yearsOfAllQuestionsTogether() {
        String words = "LEAVES of all questions together (those that lead to one; what 0), how many (2)";
        years(words, pairs(4, 19, 4, 0, 4, 0, 4, 0, 4, 0, 4, 0, 4, 0, 4, 0, 4, 0, 4, 0, 4, 0, 4, 0, 4, 0, 4, 0, 4, 0,
            4, 0, 4, 0, 4, 0, 4, 0, 4, 0), 19 * 98, NONE, 19, 0);
        // a question that leads to LEAF 0 leads to one
        E.of(() -> zero(), words);
        E.answersAndLeavesAll("LEAF 0, what 0", x -> x.years(1, 0, 0, 2, 0), 0);
        E.answersAndLeavesAll("LEAF 0, what 1", x -> x.years(1, 0, 0, 2, 1), NONE);
        E.answersAndLeavesAll("LEAF 0, what 2", x -> x.years(1, 0, 0, 2, 2), 2);
        E.answersAndLeavesAll("LEAF 0, what 10", x -> x.years(1, 0, 0, 2, 10), 0);
    }

    private static WorldIndex zero() {
        WorldIndex x = Check.withBook("i;l0019;b0019");
        Check.fill(x, 1, 0, 0, 0, 1, 0);
        return x;
    }

    private static void yearsOfASlipThen() {
        E.of(() -> withPairsOfTwo(0, 1), "LEAF of SLIP k then (10 and k; NONE: none, there is no such SLIP)");
        E.answersAndLeavesAll("SLIP 0, WET", x -> x.years(1, 0, 0, 1, 10), NONE);
        E.answersAndLeavesAll("SLIP 0", x -> x.years(1, 0, 0, 0, 10), 12);
        E.answersAndLeavesAll("SLIP 1", x -> x.years(1, 0, 0, 0, 11), 12);
        for (int what = 12; what <= 16; what++) {
            int w = what;
            E.answersAndLeavesAll("no SLIP " + (w - 10), x -> x.years(1, 0, 0, 0, w), NONE);
        }
    }

    private static void yearsByLanes() {
        String words = "what comes to a cell of it is cut to its LANE (of YEARS)";
        for (int lane = 0; lane < 3; lane++) {
            int l = lane;
            E.of(() -> cutPair(l, 256), words);
            E.answersWithoutFault("256, lane " + l, x -> x.years(1, l, 0, 1, 0), l == 0 ? 1 : UNKNOWN);
            E.of(() -> cutPair(l, 65536), words);
            E.answersWithoutFault("65536, lane " + l, x -> x.years(1, l, 0, 1, 0), l < 2 ? 1 : UNKNOWN);
        }
    }

    private static WorldIndex cutPair(int lane, int first) {
        WorldIndex x = Check.withBook(Check.SEVEN);
        Check.fill(x, 1, lane, first, 0);
        return x;
    }
}
