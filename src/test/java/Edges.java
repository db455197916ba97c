import java.util.ArrayList;
import java.util.List;

/**
 * What the tests of the document's edges share. A test is of one sentence, whose words it tells first, so that an
 * answer that is not as due is printed with them. A call that is refused or comes to a FAULT is made on one of two
 * objects that are alike, and then all that can be asked is asked of both.
 */
final class Edges {
    static final int UNKNOWN = -1, OUTSIDE = -2, STATE = -3, FULL = -4, NONE = -9;
    static final int NULL = 1, CAST = 2, INDEX = 3, SIZE = 4;
    static final int MIN = Integer.MIN_VALUE, MAX = Integer.MAX_VALUE;
    static final long LOST = Long.MIN_VALUE;

    interface Call {
        long on(WorldIndex x);
    }

    interface Room {
        WorldIndex made();
    }

    private final Check check = new Check();
    private String sentence = "";
    private Room room = Edges::fresh;

    /** The sentence that is tested from here on, and how the objects are for it. */
    void of(Room objects, String words) {
        room = objects;
        sentence = words;
    }

    void end() {
        check.end();
    }

    void due(String call, long got, long want) {
        check.due("'" + sentence + "': " + call, got, want);
    }

    // ---- rooms

    /** Nothing at all. */
    static WorldIndex fresh() {
        return new WorldIndex();
    }

    /** No BOOK; SHEET 0 has 60 bytes, 1 has 10 shorts, 2 has no ints, 3 nothing. */
    static WorldIndex bookless() {
        WorldIndex x = new WorldIndex();
        sheets(x);
        return x;
    }

    /** Two SLIPS as they came: LINE 12, that SEES none; DASH 5, that SEES 0. Nothing else ever happened. */
    static WorldIndex two() {
        return Check.withBook("i;l1239;d0540");
    }

    /** Seven SLIPS that much happened to: some WET, asked for, sent, read, told; SHEETS as without a BOOK. */
    static WorldIndex seven() {
        WorldIndex x = Check.withBook(Check.SEVEN);
        sheets(x);
        x.want(3, 5);
        x.see(4, 4);
        x.wet(6);
        x.wet(2);
        x.ask(0);
        x.ask(6);
        x.ask(4);
        x.reading(0, 1);
        x.reading(4, NONE);
        x.reading(1, 49);
        x.tell(1);
        x.quote(2);
        return x;
    }

    /** As seven, with as many READINGS as there may be. */
    static WorldIndex read() {
        WorldIndex x = seven();
        x.reading(3, 49);
        x.reading(5, 1);
        x.reading(6, NONE);
        x.reading(2, NONE);
        x.reading(0, 1);
        return x;
    }

    private static void sheets(WorldIndex x) {
        x.sheet(0, 0, 60);
        x.put(0, 0, 105);
        x.put(0, 59, -7);
        Check.fill(x, 1, 1, 300, -300, 2, 0, 3, 1, 0, 0, 1, 0);
        x.sheet(2, 2, 0);
    }

    // ---- calls that are answered

    /** On an object of its own. */
    void answers(String name, Call call, long want) {
        due(name, call.on(room.made()), want);
    }

    /** One that names FAULTS, and comes to none; a FAULT ahead of it is told no longer. */
    void answersWithoutFault(String name, Call call, long want) {
        WorldIndex x = room.made();
        x.sheet(0, 0, -1);
        due(name, call.on(x), want);
        due("fault() behind " + name, x.fault(), 0);
    }

    /** One that names no FAULTS: fault() tells what it did. */
    void answersLeavingFault(String name, Call call, long want) {
        WorldIndex x = room.made();
        x.sheet(0, 0, -1);
        due(name, call.on(x), want);
        due("fault() behind " + name + ", that names none", x.fault(), SIZE);
    }

    /** One that names FAULTS, comes to none, and changes nothing. */
    void answersAndLeavesAll(String name, Call call, long want) {
        answersWithoutFault(name, call, want);
        unchanged(name, call);
    }

    /** One that names no FAULTS, and changes nothing, whatever it answers. */
    void onlyTells(String name, Call call, long want) {
        answersLeavingFault(name, call, want);
        unchanged(name, call);
    }

    // ---- calls that are refused, or come to a FAULT

    /** One that names no FAULTS: fault() tells what it did. */
    void refused(String name, Call call, long want) {
        onlyTells(name, call, want);
    }

    /** One that names FAULTS: fault() tells that it came to none. */
    void refusedOfFaults(String name, Call call, long want) {
        comesTo(name, call, 0, want);
        unchanged(name, call);
    }

    void faulted(String name, Call call, int fault) {
        comesTo(name, call, fault, -10 - fault);
        unchanged(name, call);
    }

    /** A FAULT, or a refusal (0), of a call that answers a long. */
    void lost(String name, Call call, int fault) {
        comesTo(name, call, fault, LOST);
        unchanged(name, call);
    }

    private void comesTo(String name, Call call, int fault, long want) {
        WorldIndex x = room.made();
        // what fault() told ahead of the call must be another FAULT, or it could not be seen that it becomes this one
        if (fault == SIZE) {
            x.put(0, -1, 0);
        } else {
            x.sheet(0, 0, -1);
        }
        due(name, call.on(x), want);
        due("fault() behind " + name, x.fault(), fault);
        due("fault() behind fault()", x.fault(), fault);
    }

    // ---- all that can be asked

    private interface Look {
        List<Long> at(WorldIndex x);
    }

    /** In three parts, each on new objects, since none is promised anything behind its 512th call. */
    private void unchanged(String name, Call call) {
        same(name, call, Edges::slips);
        same(name, call, Edges::fits);
        same(name, call, Edges::cells);
    }

    private void same(String name, Call call, Look look) {
        WorldIndex x = room.made();
        WorldIndex twin = room.made();
        call.on(x);
        List<Long> got = look.at(x);
        List<Long> want = look.at(twin);
        for (int a = 0; a < want.size(); a++) {
            due(name + " changes nothing, answer " + a, got.get(a), want.get(a));
        }
    }

    private static List<Long> slips(WorldIndex x) {
        List<Long> all = new ArrayList<>();
        for (int what = 0; what < 4; what++) {
            all.add((long) x.many(what));
        }
        all.add((long) x.trace());
        for (int k = 0; k < 7; k++) {
            for (int what = 0; what < 8; what++) {
                all.add((long) x.ofSlip(k, what));
            }
        }
        for (int v = 0; v < 99; v++) {
            all.add((long) x.leads(v));
        }
        for (int k = -1; k < 7; k++) {
            all.add((long) x.tree(k));
        }
        all.add((long) x.rings(0));
        all.add((long) x.rings(1));
        all.add((long) x.cuts());
        all.add(x.odds(49, 0));
        all.add(x.odds(49, 1));
        return all;
    }

    /** Of all READINGS, then of all but the last, and so on: so each of them is seen. */
    private static List<Long> fits(WorldIndex x) {
        List<Long> all = new ArrayList<>();
        int slips = x.many(0);
        for (int left = x.many(3); left >= 0; left--) {
            for (int k = 0; k < slips; k++) {
                for (int what = 0; what < 3; what++) {
                    all.add((long) x.pages(k, what));
                }
                all.add((long) x.kinds(k));
                all.add((long) x.seen(k));
            }
            all.add((long) x.back(1));
        }
        return all;
    }

    private static List<Long> cells(WorldIndex x) {
        List<Long> all = new ArrayList<>();
        for (int k = 0; k < 4; k++) {
            int own = 0;
            for (int lane = 0; lane < 3; lane++) {
                x.cell(k, 0, lane);
                all.add((long) x.fault());
                own = x.fault() == CAST ? own : lane;
            }
            for (int i = 0; i <= 60; i++) {
                all.add(x.cell(k, i, own));
            }
            all.add((long) x.lose(k));
        }
        return all;
    }
}
