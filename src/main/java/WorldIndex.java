/**
 * An index of the long book, the world: slips, the leaf each leads to, and what can be told of them.
 * What each call answers is told by the document; the comments here say only why it is done so.
 */
public final class WorldIndex {
    public static final int UNKNOWN = -1, OUTSIDE = -2, STATE = -3, FULL = -4, NONE = -9;
    public static final long LOST = Long.MIN_VALUE;

    private static final int NO_FAULT = 0, NULL = 1, CAST = 2, INDEX = 3, SIZE = 4;
    private static final int FAULT_BASE = -10, TEXT_BASE = -100;
    private static final int NOT_REFUSED = 0;

    private static final int LINE = 0, DASH = 1, BOLD = 2;
    private static final int BYTES = 0, SHORTS = 1, INTS = 2;

    private static final int MOST_SLIPS = 7, FEWEST_SLIPS = 2, CODES_OF_SLIP = 6;
    private static final int GREATEST_PAGE = 49, GREATEST_LEAF = 98, GREATEST_ASKED = 9;
    private static final int SHEETS = 4, MOST_CELLS = 60;
    private static final int MOST_READINGS = 8, MOST_PAIRS = 20, MOST_TWOS = 10;

    private static final int QUESTION = 0, GETS_WET = 1, IS_DRIED = 2, SENT = 10, LAST_SENT = 19;
    private static final int SEES_NONE_BIT = 7;
    private static final int COST = -1, HOW_MANY_ORDERS = -1;

    private static final int LINE_BODY = 1, DASH_BODY = 2, BOLD_BODY = 3, LENT_BODY = 4, BOLD_QUOTE_BODY = 5;
    private static final int DASH_ADDS = 100, BOLD_QUOTE = 20;

    private final Row[] rows;
    private final Slips slips;
    private final Readings readings;
    private final Years told;
    private final SearchTree searchTree;
    private final Orderings orderings;
    private int questions;
    private int traced;
    private int latestFault;

    public WorldIndex() {
        rows = new Row[SHEETS];
        for (int k = 0; k < SHEETS; k++) {
            rows[k] = new Row();
        }
        slips = new Slips();
        readings = new Readings();
        told = new Years();
        searchTree = new SearchTree();
        orderings = new Orderings();
    }

    // ---- 1 the book

    public int book(int sheet, int lane, int i, int n) {
        latestFault = NO_FAULT;
        if (!isSheet(sheet)) {
            return UNKNOWN;
        }
        if (!isLane(lane)) {
            return OUTSIDE;
        }
        Row row = rows[sheet];
        int found = row.faultAsLane(lane, i, n);
        if (found != NO_FAULT) {
            return faulted(found);
        }
        int place = Text.firstFault(row, i, n);
        if (place != NONE) {
            return TEXT_BASE - place;
        }
        slips.fill(row, i, n);
        readings.count = 0;
        questions = 0;
        return slips.count;
    }

    public int ofSlip(int k, int what) {
        if (!slips.has(k)) {
            return UNKNOWN;
        }
        switch (what) {
            case 0: return slips.kind[k];
            case 1: return slips.page[k];
            case 2: return slips.asked[k];
            case 3: return slips.sent[k];
            case 4: return slips.leafOf(k);
            case 5: return slips.looksOf(k);
            case 6: return slips.isWet(k) ? 1 : 0;
            case 7: return slips.pointsTo(k);
            default: return OUTSIDE;
        }
    }

    public int want(int k, int v) {
        if (!slips.has(k)) {
            return UNKNOWN;
        }
        if (v < 0 || v > GREATEST_ASKED) {
            return OUTSIDE;
        }
        int was = slips.asked[k];
        slips.asked[k] = v;
        return was;
    }

    public int see(int k, int to) {
        if (!slips.has(k)) {
            return UNKNOWN;
        }
        if (to != NONE && !slips.has(to)) {
            return UNKNOWN;
        }
        int was = slips.sent[k];
        slips.sent[k] = to;
        return was;
    }

    // ---- 2 questions

    public int ask(int k) {
        if (!slips.has(k)) {
            return UNKNOWN;
        }
        questions++;
        return slips.leafOf(k);
    }

    public int wet(int k) {
        if (!slips.has(k)) {
            return UNKNOWN;
        }
        if (!slips.soak(k)) {
            return STATE;
        }
        return slips.howManyWet();
    }

    public int dry(int k) {
        if (!slips.has(k)) {
            return UNKNOWN;
        }
        if (!slips.air(k)) {
            return STATE;
        }
        return slips.howManyWet();
    }

    public int leads(int v) {
        if (!isLeaf(v)) {
            return OUTSIDE;
        }
        if (slips.count == 0) {
            return STATE;
        }
        int set = 0;
        for (int k = 0; k < slips.count; k++) {
            if (slips.leafOf(k) == v) {
                set |= 1 << k;
            }
        }
        return set;
    }

    public int years(int sheet, int lane, int i, int n, int what) {
        latestFault = NO_FAULT;
        if (!isSheet(sheet)) {
            return UNKNOWN;
        }
        if (!isLane(lane) || n < 0 || n > MOST_PAIRS || !Years.answers(what)) {
            return OUTSIDE;
        }
        Row row = rows[sheet];
        int found = row.faultAsLane(lane, i, 2 * n);
        if (found != NO_FAULT) {
            return faulted(found);
        }
        if (slips.count == 0) {
            return STATE;
        }
        int refused = refusalOfPairs(row, i, n);
        if (refused != NOT_REFUSED) {
            return refused;
        }
        told.goThrough(slips, row, i, n);
        return told.answer(what);
    }

    /** All pairs are looked at ahead of the first, since a refused call tells nothing of the years. */
    private int refusalOfPairs(Row row, int i, int n) {
        for (int pair = 0; pair < n; pair++) {
            if (!Years.isDeed(row.cells[i + 2 * pair + 1])) {
                return OUTSIDE;
            }
            if (!slips.has(row.cells[i + 2 * pair])) {
                return UNKNOWN;
            }
        }
        return NOT_REFUSED;
    }

    // ---- 3 rings, trees, orders

    public int rings(int what) {
        if (what != 0 && what != 1) {
            return OUTSIDE;
        }
        if (slips.count == 0) {
            return STATE;
        }
        // each RING has just one least SLIP
        return what == 0 ? slips.inRings() : Integer.bitCount(slips.leastOfRings());
    }

    /** A SLIP SEES one at most, so no two RINGS share a SLIP: one cut in each is needed and is enough. */
    public int cuts() {
        if (slips.count == 0) {
            return STATE;
        }
        return slips.leastOfRings();
    }

    public int tree(int k) {
        if (k < COST || k >= MOST_SLIPS) {
            return OUTSIDE;
        }
        if (slips.count == 0) {
            return STATE;
        }
        searchTree.grow(slips);
        return k == COST ? searchTree.leastCost() : searchTree.depthOf(k);
    }

    public int orders(int sheet, int lane, int i, int n, int k) {
        latestFault = NO_FAULT;
        if (!isSheet(sheet)) {
            return UNKNOWN;
        }
        if (!isLane(lane) || n < 0 || n > MOST_TWOS || k < HOW_MANY_ORDERS || k >= MOST_SLIPS) {
            return OUTSIDE;
        }
        Row row = rows[sheet];
        int found = row.faultAsLane(lane, i, 2 * n);
        if (found != NO_FAULT) {
            return faulted(found);
        }
        if (slips.count == 0) {
            return STATE;
        }
        orderings.begin(slips.count);
        for (int two = 0; two < n; two++) {
            int first = row.cells[i + 2 * two];
            int second = row.cells[i + 2 * two + 1];
            if (!slips.has(first) || !slips.has(second)) {
                return UNKNOWN;
            }
            orderings.putAhead(first, second);
        }
        return k == HOW_MANY_ORDERS ? orderings.howMany() : orderings.firstAt(k);
    }

    // ---- 4 where it led

    public int reading(int k, int v) {
        if (!slips.has(k)) {
            return UNKNOWN;
        }
        if (v != NONE && !isLeaf(v)) {
            return OUTSIDE;
        }
        if (readings.count >= MOST_READINGS) {
            return FULL;
        }
        return readings.note(k, v);
    }

    public int back(int n) {
        if (n < 0 || n > readings.count) {
            return OUTSIDE;
        }
        readings.count -= n;
        return readings.count;
    }

    public int pages(int k, int what) {
        if (!slips.has(k)) {
            return UNKNOWN;
        }
        if (what < 0 || what > 2) {
            return OUTSIDE;
        }
        readings.tryPages(slips, k);
        switch (what) {
            case 0: return readings.fittingPages;
            case 1: return readings.leastPage;
            default: return readings.greatestPage;
        }
    }

    public int kinds(int k) {
        if (!slips.has(k)) {
            return UNKNOWN;
        }
        return readings.kindsOf(slips, k);
    }

    public int seen(int k) {
        if (!slips.has(k)) {
            return UNKNOWN;
        }
        return readings.seenOf(slips, k);
    }

    public long odds(int v, int which) {
        if (!isLeaf(v) || (which != 0 && which != 1)) {
            return LOST;
        }
        int all = 0;
        int led = 0;
        for (int k = 0; k < slips.count; k++) {
            all += slips.asked[k];
            if (slips.leafOf(k) == v) {
                led += slips.asked[k];
            }
        }
        if (all == 0) {
            return LOST;
        }
        int common = greatestCommon(all, led);
        if (common == 0) {
            return LOST;
        }
        return which == 0 ? led / common : all / common;
    }

    // ---- 5 sheets, parts

    public int sheet(int k, int lane, int n) {
        latestFault = NO_FAULT;
        if (!isSheet(k)) {
            return UNKNOWN;
        }
        if (!isLane(lane) || n > MOST_CELLS) {
            return OUTSIDE;
        }
        if (n < 0) {
            return faulted(SIZE);
        }
        rows[k].renew(lane, n);
        return 1;
    }

    public int lose(int k) {
        if (!isSheet(k)) {
            return UNKNOWN;
        }
        if (!rows[k].there) {
            return 0;
        }
        rows[k].there = false;
        return 1;
    }

    public int put(int k, int i, int v) {
        latestFault = NO_FAULT;
        if (!isSheet(k)) {
            return UNKNOWN;
        }
        Row row = rows[k];
        if (!row.there) {
            return faulted(NULL);
        }
        if (i < 0 || i >= row.length) {
            return faulted(INDEX);
        }
        row.cells[i] = cutTo(row.lane, v);
        return 1;
    }

    public long cell(int k, int i, int lane) {
        latestFault = NO_FAULT;
        if (!isSheet(k) || !isLane(lane)) {
            return LOST;
        }
        Row row = rows[k];
        int found = row.faultAsLane(lane, i, 1);
        if (found != NO_FAULT) {
            latestFault = found;
            return LOST;
        }
        return row.cells[i];
    }

    public int copy(int k, int i, int other, int j, int n) {
        latestFault = NO_FAULT;
        if (!isSheet(k) || !isSheet(other)) {
            return UNKNOWN;
        }
        Row from = rows[k];
        Row to = rows[other];
        if (!from.there || !to.there) {
            return faulted(NULL);
        }
        if (from.lane != to.lane) {
            return faulted(CAST);
        }
        if (n < 0 || !from.holds(i, n) || !to.holds(j, n)) {
            return faulted(INDEX);
        }
        System.arraycopy(from.cells, i, to.cells, j, n);
        return n;
    }

    public int tell(int k) {
        if (!slips.has(k)) {
            return UNKNOWN;
        }
        switch (slips.kind[k]) {
            case DASH: return dashBody(k);
            case BOLD: return boldBody(k);
            default: return lineBody(k);
        }
    }

    public int quote(int k) {
        if (!slips.has(k)) {
            return UNKNOWN;
        }
        if (slips.kind[k] == BOLD) {
            leaveInTrace(BOLD_QUOTE_BODY);
            return BOLD_QUOTE;
        }
        leaveInTrace(LENT_BODY);
        return k;
    }

    public int as(int k, int kind) {
        latestFault = NO_FAULT;
        if (!slips.has(k)) {
            return UNKNOWN;
        }
        if (!isKind(kind)) {
            return OUTSIDE;
        }
        // kinds are numbered so that each is also all of those below it
        if (slips.kind[k] < kind) {
            return faulted(CAST);
        }
        return 1;
    }

    public int trace() {
        return traced;
    }

    public int fault() {
        return latestFault;
    }

    public int many(int what) {
        switch (what) {
            case 0: return slips.count;
            case 1: return questions;
            case 2: return slips.howManyWet();
            case 3: return readings.count;
            default: return OUTSIDE;
        }
    }

    // ---- bodies of TELLING

    private int lineBody(int k) {
        leaveInTrace(LINE_BODY);
        return slips.page[k];
    }

    private int dashBody(int k) {
        leaveInTrace(DASH_BODY);
        return lineBody(k) + DASH_ADDS;
    }

    private int boldBody(int k) {
        leaveInTrace(BOLD_BODY);
        int byDash = dashBody(k);
        return byDash + lineBody(k);
    }

    private void leaveInTrace(int body) {
        traced = 31 * traced + body;
    }

    // ---- what several calls need

    private int faulted(int found) {
        latestFault = found;
        return FAULT_BASE - found;
    }

    private static boolean isSheet(int k) {
        return k >= 0 && k < SHEETS;
    }

    private static boolean isLane(int lane) {
        return lane >= BYTES && lane <= INTS;
    }

    private static boolean isKind(int kind) {
        return kind >= LINE && kind <= BOLD;
    }

    private static boolean isLeaf(int v) {
        return v >= 0 && v <= GREATEST_LEAF;
    }

    private static int cutTo(int lane, int v) {
        switch (lane) {
            case BYTES: return (byte) v;
            case SHORTS: return (short) v;
            default: return v;
        }
    }

    private static int greatestCommon(int a, int b) {
        int upper = a;
        int lower = b;
        // the lower one falls with each step, and none is above 63
        for (int step = 0; step < 1000 && lower != 0; step++) {
            int rest = upper % lower;
            upper = lower;
            lower = rest;
        }
        return upper;
    }

    /** What a SHEET has. The cells are made once and used again for every row that the SHEET gets. */
    private static final class Row {
        private final int[] cells = new int[MOST_CELLS];
        private boolean there;
        private int lane;
        private int length;

        void renew(int newLane, int newLength) {
            for (int i = 0; i < MOST_CELLS; i++) {
                cells[i] = 0;
            }
            there = true;
            lane = newLane;
            length = newLength;
        }

        boolean holds(int i, int n) {
            return i >= 0 && i <= length && n <= length - i;
        }

        /** What is come to when n cells from i on are taken as a row of a LANE. */
        int faultAsLane(int asLane, int i, int n) {
            if (there && lane != asLane) {
                return CAST;
            }
            if (!there) {
                return NULL;
            }
            if (n < 0) {
                return SIZE;
            }
            return holds(i, n) ? NO_FAULT : INDEX;
        }
    }

    /** How a TEXT is read. */
    private static final class Text {

        /** NONE, if the n cells from i on are a TEXT. */
        static int firstFault(Row row, int i, int n) {
            for (int place = 0; place < n; place++) {
                if (!goesOn(row.cells[i + place], place)) {
                    return place;
                }
            }
            return mayEnd(n) ? NONE : n;
        }

        private static boolean goesOn(int code, int place) {
            if (place == 0) {
                return code == 'i';
            }
            if (place > MOST_SLIPS * CODES_OF_SLIP) {
                return false;
            }
            switch ((place - 1) % CODES_OF_SLIP) {
                case 0: return code == ';';
                case 1: return code == 'l' || code == 'd' || code == 'b';
                case 2: return code >= '0' && code <= '4';
                default: return code >= '0' && code <= '9';
            }
        }

        private static boolean mayEnd(int n) {
            return slipsIn(n) >= FEWEST_SLIPS && (n - 1) % CODES_OF_SLIP == 0;
        }

        static int slipsIn(int n) {
            return (n - 1) / CODES_OF_SLIP;
        }

        static int kindOf(int letter) {
            if (letter == 'b') {
                return BOLD;
            }
            return letter == 'd' ? DASH : LINE;
        }
    }

    /** The SLIPS of a BOOK; there is no BOOK while there are none. */
    private static final class Slips {
        private final int[] kind = new int[MOST_SLIPS];
        private final int[] page = new int[MOST_SLIPS];
        private final int[] asked = new int[MOST_SLIPS];
        private final int[] sent = new int[MOST_SLIPS];
        private int count;
        private int wetSet;

        boolean has(int k) {
            return k >= 0 && k < count;
        }

        /** By n cells that are known to be a TEXT. */
        void fill(Row row, int i, int n) {
            count = Text.slipsIn(n);
            wetSet = 0;
            for (int k = 0; k < count; k++) {
                int letterAt = i + 2 + k * CODES_OF_SLIP;
                kind[k] = Text.kindOf(row.cells[letterAt]);
                page[k] = 10 * (row.cells[letterAt + 1] - '0') + row.cells[letterAt + 2] - '0';
                asked[k] = row.cells[letterAt + 3] - '0';
                send(k, row.cells[letterAt + 4] - '0');
            }
        }

        void becomeLike(Slips model) {
            count = model.count;
            wetSet = model.wetSet;
            for (int k = 0; k < MOST_SLIPS; k++) {
                kind[k] = model.kind[k];
                page[k] = model.page[k];
                asked[k] = model.asked[k];
                sent[k] = model.sent[k];
            }
        }

        void send(int k, int to) {
            sent[k] = has(to) ? to : NONE;
        }

        boolean isWet(int k) {
            return (wetSet >> k & 1) == 1;
        }

        int howManyWet() {
            return Integer.bitCount(wetSet);
        }

        boolean soak(int k) {
            if (isWet(k)) {
                return false;
            }
            wetSet |= 1 << k;
            return true;
        }

        boolean air(int k) {
            if (!isWet(k)) {
                return false;
            }
            wetSet &= ~(1 << k);
            return true;
        }

        int pointsTo(int k) {
            switch (kind[k]) {
                case DASH: return page[k] + 1;
                case BOLD: return 2 * page[k];
                default: return page[k];
            }
        }

        /** Who looks at more SLIPS than there are goes round. */
        int looksOf(int k) {
            int at = k;
            for (int looks = 1; looks <= count; looks++) {
                if (isWet(at)) {
                    return NONE;
                }
                if (sent[at] == NONE) {
                    return looks;
                }
                at = sent[at];
            }
            return NONE;
        }

        int leafOf(int k) {
            int looks = looksOf(k);
            if (looks == NONE) {
                return NONE;
            }
            int at = k;
            for (int look = 1; look < looks; look++) {
                at = sent[at];
            }
            return pointsTo(at);
        }

        int inRings() {
            int set = 0;
            for (int k = 0; k < count; k++) {
                if (leastRoundFrom(k) != NONE) {
                    set |= 1 << k;
                }
            }
            return set;
        }

        int leastOfRings() {
            int set = 0;
            for (int k = 0; k < count; k++) {
                if (leastRoundFrom(k) == k) {
                    set |= 1 << k;
                }
            }
            return set;
        }

        /** The least SLIP of the RING that k is in; NONE, if one does not come back to k. */
        private int leastRoundFrom(int k) {
            int least = k;
            int at = sent[k];
            for (int step = 0; step < count && at != NONE; step++) {
                if (at == k) {
                    return least;
                }
                least = Math.min(least, at);
                at = sent[at];
            }
            return NONE;
        }
    }

    /** YEARS are gone through on SLIPS of their own, so that nothing is changed. */
    private static final class Years {
        private final Slips then = new Slips();
        private int leaves;
        private int led;
        private int firstWrong;

        static boolean answers(int what) {
            return (what >= 0 && what <= 3) || (what >= 10 && what < 10 + MOST_SLIPS);
        }

        static boolean isDeed(int deed) {
            return (deed >= QUESTION && deed <= IS_DRIED) || (deed >= SENT && deed <= LAST_SENT);
        }

        void goThrough(Slips now, Row row, int i, int n) {
            then.becomeLike(now);
            leaves = 0;
            led = 0;
            firstWrong = NONE;
            for (int pair = 0; pair < n; pair++) {
                boolean right = happens(row.cells[i + 2 * pair], row.cells[i + 2 * pair + 1]);
                if (!right && firstWrong == NONE) {
                    firstWrong = pair;
                }
            }
        }

        private boolean happens(int k, int deed) {
            switch (deed) {
                case QUESTION: return leadsSomewhere(k);
                case GETS_WET: return then.soak(k);
                case IS_DRIED: return then.air(k);
                default:
                    then.send(k, deed - SENT);
                    return true;
            }
        }

        private boolean leadsSomewhere(int k) {
            int leaf = then.leafOf(k);
            if (leaf == NONE) {
                return false;
            }
            leaves += leaf;
            led++;
            return true;
        }

        int answer(int what) {
            switch (what) {
                case 0: return leaves;
                case 1: return firstWrong;
                case 2: return led;
                case 3: return then.wetSet;
                default: return then.has(what - 10) ? then.leafOf(what - 10) : NONE;
            }
        }
    }

    /**
     * The TREE, by the least costs of all parts of the row of dry SLIPS. A part is told by where it begins and
     * where it ends (that place is no longer in it). Each part of the best tree is the best of its own, so the
     * least root in each part gives the tree that the document chooses among those of one cost.
     */
    private static final class SearchTree {
        private static final int WIDTH = MOST_SLIPS + 1;
        private final int[] dry = new int[MOST_SLIPS];
        private final int[] askedUpTo = new int[WIDTH];
        private final int[] costs = new int[WIDTH * WIDTH];
        private final int[] roots = new int[WIDTH * WIDTH];
        private int size;

        void grow(Slips slips) {
            size = 0;
            for (int k = 0; k < slips.count; k++) {
                if (!slips.isWet(k)) {
                    dry[size] = k;
                    askedUpTo[size + 1] = askedUpTo[size] + slips.asked[k];
                    size++;
                }
            }
            for (int length = 1; length <= size; length++) {
                for (int begin = 0; begin + length <= size; begin++) {
                    chooseRoot(begin, begin + length);
                }
            }
        }

        private void chooseRoot(int begin, int end) {
            int best = begin;
            int least = Integer.MAX_VALUE;
            for (int root = begin; root < end; root++) {
                int parts = costs[partOf(begin, root)] + costs[partOf(root + 1, end)];
                if (parts < least) {
                    least = parts;
                    best = root;
                }
            }
            roots[partOf(begin, end)] = best;
            costs[partOf(begin, end)] = least + askedUpTo[end] - askedUpTo[begin];
        }

        private static int partOf(int begin, int end) {
            return begin * WIDTH + end;
        }

        int leastCost() {
            return costs[partOf(0, size)];
        }

        int depthOf(int k) {
            int begin = 0;
            int end = size;
            for (int depth = 1; depth <= size && begin < end; depth++) {
                int root = roots[partOf(begin, end)];
                if (dry[root] == k) {
                    return depth;
                }
                if (k < dry[root]) {
                    end = root;
                } else {
                    begin = root + 1;
                }
            }
            return NONE;
        }
    }

    /** ORDERS, counted by which SLIPS stand already, whatever the row in which they do. */
    private static final class Orderings {
        private final int[] aheadOf = new int[MOST_SLIPS];
        private final int[] ways = new int[1 << MOST_SLIPS];
        private int count;

        void begin(int slipCount) {
            count = slipCount;
            for (int k = 0; k < MOST_SLIPS; k++) {
                aheadOf[k] = 0;
            }
        }

        void putAhead(int first, int second) {
            aheadOf[second] |= 1 << first;
        }

        private boolean mayFollow(int k, int standing) {
            return (standing >> k & 1) == 0 && (aheadOf[k] & ~standing) == 0;
        }

        int howMany() {
            int all = (1 << count) - 1;
            ways[0] = 1;
            for (int set = 1; set <= all; set++) {
                ways[set] = waysTo(set);
            }
            return ways[all];
        }

        private int waysTo(int set) {
            int sum = 0;
            for (int last = 0; last < count; last++) {
                int before = set & ~(1 << last);
                if (before != set && mayFollow(last, before)) {
                    sum += ways[before];
                }
            }
            return sum;
        }

        /** The least SLIP that may follow is taken each time: that never shuts out what comes later. */
        int firstAt(int place) {
            if (place >= count || howMany() == 0) {
                return NONE;
            }
            int standing = 0;
            int latest = NONE;
            for (int at = 0; at <= place; at++) {
                latest = leastThatMayFollow(standing);
                if (latest == NONE) {
                    return NONE;
                }
                standing |= 1 << latest;
            }
            return latest;
        }

        private int leastThatMayFollow(int standing) {
            for (int k = 0; k < count; k++) {
                if (mayFollow(k, standing)) {
                    return k;
                }
            }
            return NONE;
        }
    }

    /** READINGS, and what would fit them; what is tried is tried on SLIPS of their own. */
    private static final class Readings {
        private final int[] slip = new int[MOST_READINGS];
        private final int[] leaf = new int[MOST_READINGS];
        private final Slips tried = new Slips();
        private int count;
        private int fittingPages;
        private int leastPage;
        private int greatestPage;

        int note(int k, int v) {
            slip[count] = k;
            leaf[count] = v;
            count++;
            return count - 1;
        }

        private boolean allAreSo() {
            for (int r = 0; r < count; r++) {
                if (tried.leafOf(slip[r]) != leaf[r]) {
                    return false;
                }
            }
            return true;
        }

        void tryPages(Slips now, int k) {
            tried.becomeLike(now);
            fittingPages = 0;
            leastPage = NONE;
            greatestPage = NONE;
            for (int page = 0; page <= GREATEST_PAGE; page++) {
                tried.page[k] = page;
                if (allAreSo()) {
                    fittingPages++;
                    leastPage = leastPage == NONE ? page : leastPage;
                    greatestPage = page;
                }
            }
        }

        int kindsOf(Slips now, int k) {
            tried.becomeLike(now);
            int set = 0;
            for (int kind = LINE; kind <= BOLD; kind++) {
                tried.kind[k] = kind;
                if (allAreSo()) {
                    set |= 1 << kind;
                }
            }
            return set;
        }

        int seenOf(Slips now, int k) {
            tried.becomeLike(now);
            int set = 0;
            for (int to = 0; to < tried.count; to++) {
                tried.sent[k] = to;
                if (allAreSo()) {
                    set |= 1 << to;
                }
            }
            tried.sent[k] = NONE;
            return allAreSo() ? set | 1 << SEES_NONE_BIT : set;
        }
    }
}
