/** No call throws or fails to end, for any arguments, without a BOOK and with one (rule 7 of LANGUAGE.md). */
public final class AnyArgumentsTest {
    private static final int MIN = Integer.MIN_VALUE, MAX = Integer.MAX_VALUE;
    private static final int[] MANY = {MIN, MIN + 1, -100, -10, -9, -8, -2, -1, 0, 1, 2, 3, 4, 6, 7, 8, 9, 10, 11, 16, 17,
        19, 20, 21, 49, 50, 59, 60, 61, 98, 99, 100, 1 << 16, 1 << 30, MAX - 1, MAX};
    private static final int[] FEW = {MIN, -9, -1, 0, 1, 2, 3, 4, 10, 60, 1 << 30, MAX};
    private static final Edges.Room[] ROOMS = {Edges::fresh, Edges::bookless, Edges::two, Edges::seven, Edges::read};
    private static final Check C = new Check();
    private static final int CALLS_OF_ONE = 400;

    private final Edges.Room room;
    private WorldIndex x;
    private int calls;

    private AnyArgumentsTest(Edges.Room room) {
        this.room = room;
        x = room.made();
    }

    public static void main(String[] args) {
        for (Edges.Room room : ROOMS) {
            AnyArgumentsTest one = new AnyArgumentsTest(room);
            one.callsOfOne();
            one.callsOfTwo();
            one.callsOfThree();
            one.callsOfFourAndFive();
        }
        C.end();
    }

    /** A new object now and then: none is promised anything behind its 512th call. */
    private WorldIndex next() {
        calls++;
        if (calls % CALLS_OF_ONE == 0) {
            x = room.made();
        }
        return x;
    }

    private void answered(String call, long answer) {
        // between FULL and NONE, and between NONE and the first FAULT, there is nothing
        boolean known = answer >= -4 || answer == -9 || answer <= -11;
        C.holds(call + " answers " + answer, known);
    }

    private void callsOfOne() {
        next().cuts();
        next().trace();
        next().fault();
        for (int a : MANY) {
            answered("ask", next().ask(a));
            answered("wet", next().wet(a));
            answered("dry", next().dry(a));
            answered("leads", next().leads(a));
            answered("rings", next().rings(a));
            answered("tree", next().tree(a));
            answered("back", next().back(a));
            answered("kinds", next().kinds(a));
            answered("seen", next().seen(a));
            answered("lose", next().lose(a));
            answered("tell", next().tell(a));
            answered("quote", next().quote(a));
            answered("many", next().many(a));
        }
    }

    private void callsOfTwo() {
        for (int a : MANY) {
            for (int b : MANY) {
                answered("ofSlip", next().ofSlip(a, b));
                answered("want", next().want(a, b));
                answered("see", next().see(a, b));
                answered("reading", next().reading(a, b));
                answered("pages", next().pages(a, b));
                answered("odds", next().odds(a, b));
                answered("as", next().as(a, b));
            }
        }
    }

    private void callsOfThree() {
        for (int a : MANY) {
            for (int b : MANY) {
                for (int c : FEW) {
                    answered("sheet", next().sheet(a, b, c));
                    answered("put", next().put(a, b, c));
                    next().cell(a, b, c);
                }
            }
        }
    }

    private void callsOfFourAndFive() {
        for (int a : FEW) {
            for (int b : FEW) {
                for (int c : FEW) {
                    for (int d : FEW) {
                        answered("book", next().book(a, b, c, d));
                        for (int e : FEW) {
                            answered("years", next().years(a, b, c, d, e));
                            answered("orders", next().orders(a, b, c, d, e));
                            answered("copy", next().copy(a, b, c, d, e));
                        }
                    }
                }
            }
        }
    }
}
