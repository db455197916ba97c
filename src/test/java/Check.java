/** What the project's own tests share: how an answer is looked at, and how a TEXT comes to a SHEET. */
final class Check {
    private int wrong;
    private int looked;

    void due(String call, long got, long want) {
        looked++;
        if (got != want) {
            wrong++;
            System.out.println(call + " answered " + got + ", due is " + want);
        }
    }

    void holds(String what, boolean so) {
        looked++;
        if (!so) {
            wrong++;
            System.out.println("not so: " + what);
        }
    }

    int wrong() {
        return wrong;
    }

    void end() {
        System.out.println(wrong == 0 ? looked + " answers are as due" : wrong + " of " + looked + " answers are not as due");
        if (wrong != 0) {
            System.exit(1);
        }
    }

    /** SHEET k gets just these cells. */
    static void fill(WorldIndex x, int k, int lane, int... cells) {
        x.sheet(k, lane, cells.length);
        for (int i = 0; i < cells.length; i++) {
            x.put(k, i, cells[i]);
        }
    }

    static int[] codes(String text) {
        int[] codes = new int[text.length()];
        for (int i = 0; i < codes.length; i++) {
            codes[i] = text.charAt(i);
        }
        return codes;
    }

    /** What book() answers to a TEXT, by bytes of SHEET 0. */
    static int book(WorldIndex x, String text) {
        fill(x, 0, 0, codes(text));
        return x.book(0, 0, 0, text.length());
    }

    static WorldIndex withBook(String text) {
        WorldIndex x = new WorldIndex();
        int answer = book(x, text);
        if (answer < 0) {
            throw new IllegalStateException("no TEXT: " + text + ", " + answer);
        }
        return x;
    }

    /**
     * Seven SLIPS. 0, 5, 6 lead to leaf 1 (of 5); 1, 2, 3, 4 lead to leaf 49 (of 3); there is no RING:
     * 6 - 0 - 5, 2 - 4 - 1 - 3.
     */
    static final String SEVEN = "i;l1035;d2013;b2524;l4909;b4901;d0098;l0770";

    /** Four SLIPS, each ASKED for once: LINE 10, DASH 20, BOLD 30, LINE 40, that SEE none. */
    static final String FOUR = "i;l1019;d2019;b3019;l4019";
}
