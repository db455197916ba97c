/** Promises 15 to 20: reading, back, pages, kinds, seen, odds. */
public final class ReadingsTest {
    private static final Check C = new Check();

    public static void main(String[] args) {
        readingAndBack();
        readingRefusals();
        whatFits();
        whatFitsOfNone();
        whatFitsByHowAllIsNow();
        tryingChangesNothing();
        refusals();
        odds();
        oddsLost();
        C.end();
    }

    private static void readingAndBack() {
        WorldIndex x = Check.withBook(Check.SEVEN);
        for (int r = 0; r < 8; r++) {
            C.due("reading " + r, x.reading(r % 7, 1), r);
        }
        C.due("a ninth", x.reading(0, 1), -4);
        C.due("a ninth of no SLIP", x.reading(7, 1), -1);
        C.due("a ninth of no LEAF", x.reading(0, 99), -2);
        C.due("many(3)", x.many(3), 8);
        C.due("back(9)", x.back(9), -2);
        C.due("back(-1)", x.back(-1), -2);
        C.due("back(0)", x.back(0), 8);
        C.due("back(3)", x.back(3), 5);
        C.due("back(6)", x.back(6), -2);
        C.due("many(3)", x.many(3), 5);
        C.due("reading", x.reading(0, 0), 5);
        C.due("back(6)", x.back(6), 0);
        C.due("back(1)", x.back(1), -2);
        C.due("back(0)", x.back(0), 0);
        C.due("reading", x.reading(0, 0), 0);
        C.due("back(0) without BOOK", new WorldIndex().back(0), 0);
        C.due("back(1) without BOOK", new WorldIndex().back(1), -2);
    }

    private static void readingRefusals() {
        WorldIndex x = Check.withBook(Check.SEVEN);
        C.due("reading(7, 99)", x.reading(7, 99), -1);
        C.due("reading(-1, 0)", x.reading(-1, 0), -1);
        C.due("reading(0, 99)", x.reading(0, 99), -2);
        C.due("reading(0, -1)", x.reading(0, -1), -2);
        C.due("reading(0, -8)", x.reading(0, -8), -2);
        C.due("reading(0, -10)", x.reading(0, -10), -2);
        C.due("many(3)", x.many(3), 0);
        C.due("reading(0, 98)", x.reading(0, 98), 0);
        C.due("reading(0, 0)", x.reading(0, 0), 1);
        C.due("reading(0, -9)", x.reading(0, -9), 2);
        C.due("reading(0, 0) without BOOK", new WorldIndex().reading(0, 0), -1);
    }

    private static void fits(WorldIndex x, int k, int howMany, int least, int greatest, int kinds, int seen) {
        C.due("pages(" + k + ", 0)", x.pages(k, 0), howMany);
        C.due("pages(" + k + ", 1)", x.pages(k, 1), least);
        C.due("pages(" + k + ", 2)", x.pages(k, 2), greatest);
        C.due("kinds(" + k + ")", x.kinds(k), kinds);
        C.due("seen(" + k + ")", x.seen(k), seen);
    }

    private static void whatFits() {
        WorldIndex x = Check.withBook(Check.SEVEN);
        for (int k = 0; k < 7; k++) {
            fits(x, k, 50, 0, 49, 7, 255);
        }
        // 2 - 4 - 1 - 3 leads to 49: as it is
        x.reading(2, 49);
        fits(x, 3, 1, 49, 49, 1, 128);
        // 1 may see 3 alone: all else leads to 1, 21, 98, or goes round
        fits(x, 1, 50, 0, 49, 7, 8);
        fits(x, 2, 50, 0, 49, 7, 2 + 8 + 16);
        // 0, 5, 6 have no part in it
        fits(x, 0, 50, 0, 49, 7, 255);
        // and 6 leads to 1: by 0 and 5, a DASH of PAGE 0
        x.reading(6, 1);
        fits(x, 5, 1, 0, 0, 2, 128);
        fits(x, 0, 50, 0, 49, 7, 32);
        fits(x, 6, 50, 0, 49, 7, 1 + 32);
        fits(x, 3, 1, 49, 49, 1, 128);
        // a READING that is not so: of 6 a BOLD one of PAGE 5 on its own would lead to 10, a LINE of PAGE 10
        x.back(2);
        x.reading(6, 10);
        fits(x, 5, 1, 9, 9, 0, 0);
        fits(x, 0, 0, -9, -9, 0, 128);
        fits(x, 6, 0, -9, -9, 0, 0);
        // what no trying mends
        x.reading(6, 11);
        for (int k = 0; k < 7; k++) {
            fits(x, k, 0, -9, -9, 0, 0);
        }
        x.back(1);
        fits(x, 5, 1, 9, 9, 0, 0);
    }

    private static void whatFitsOfNone() {
        WorldIndex x = Check.withBook("i;l0009;d0009;b4901");
        // a LINE, a BOLD one of PAGE 0 lead to 0, a DASH to 1
        x.reading(0, 0);
        fits(x, 0, 1, 0, 0, 5, 128);
        x.back(1);
        // BOLD ones lead to even leaves alone
        x.see(2, -9);
        x.reading(2, 97);
        fits(x, 2, 0, -9, -9, 0, 0);
        x.back(1);
        x.reading(2, 98);
        fits(x, 2, 1, 49, 49, 4, 128);
        x.back(1);
        x.reading(2, 50);
        fits(x, 2, 1, 25, 25, 2, 0);
        x.back(1);
        // to none: by seeing itself, or one that leads back to it
        x.see(1, 0);
        x.reading(0, -9);
        fits(x, 0, 0, -9, -9, 0, 1 + 2);
        fits(x, 1, 0, -9, -9, 0, 0);
        x.wet(0);
        fits(x, 0, 50, 0, 49, 7, 128 + 7);
        fits(x, 1, 50, 0, 49, 7, 128 + 7);
    }

    private static void whatFitsByHowAllIsNow() {
        WorldIndex x = Check.withBook(Check.SEVEN);
        x.reading(0, 1);
        fits(x, 0, 50, 0, 49, 7, 32);
        x.wet(5);
        fits(x, 0, 0, -9, -9, 0, 0);
        x.dry(5);
        x.see(2, 5);
        fits(x, 0, 50, 0, 49, 7, 32 + 4);
        x.see(0, -9);
        fits(x, 0, 1, 1, 1, 0, 32 + 4);
    }

    private static void tryingChangesNothing() {
        WorldIndex x = Check.withBook(Check.SEVEN);
        x.reading(2, 49);
        for (int k = 0; k < 7; k++) {
            x.pages(k, 0);
            x.kinds(k);
            x.seen(k);
        }
        int[] kinds = {0, 1, 2, 0, 2, 1, 0};
        int[] pages = {10, 20, 25, 49, 49, 0, 7};
        int[] sees = {5, 3, 4, -9, 1, -9, 0};
        for (int k = 0; k < 7; k++) {
            C.due("kind of " + k, x.ofSlip(k, 0), kinds[k]);
            C.due("PAGE of " + k, x.ofSlip(k, 1), pages[k]);
            C.due("SEES of " + k, x.ofSlip(k, 3), sees[k]);
        }
        C.due("questions", x.many(1), 0);
    }

    private static void refusals() {
        WorldIndex x = Check.withBook(Check.FOUR);
        C.due("pages(4, 3)", x.pages(4, 3), -1);
        C.due("pages(-1, 0)", x.pages(-1, 0), -1);
        C.due("pages(0, 3)", x.pages(0, 3), -2);
        C.due("pages(0, -1)", x.pages(0, -1), -2);
        C.due("kinds(4)", x.kinds(4), -1);
        C.due("kinds(-1)", x.kinds(-1), -1);
        C.due("seen(4)", x.seen(4), -1);
        C.due("seen(-9)", x.seen(-9), -1);
        C.due("seen of four", x.seen(0), 128 + 15);
    }

    private static void odds(WorldIndex x, int v, long upper, long lower) {
        C.due("odds(" + v + ", 0)", x.odds(v, 0), upper);
        C.due("odds(" + v + ", 1)", x.odds(v, 1), lower);
    }

    private static void odds() {
        WorldIndex x = Check.withBook(Check.SEVEN);
        odds(x, 1, 19, 22);
        odds(x, 49, 3, 22);
        odds(x, 0, 0, 1);
        odds(x, 98, 0, 1);
        x.want(0, 0);
        x.want(6, 0);
        x.want(5, 1);
        odds(x, 1, 1, 4);
        odds(x, 49, 3, 4);
        x.want(1, 0);
        x.want(5, 6);
        odds(x, 1, 3, 4);
        odds(x, 49, 1, 4);
        // those that lead nowhere are questions, too
        x.wet(3);
        odds(x, 49, 0, 1);
        odds(x, 1, 3, 4);
        x.want(2, 0);
        odds(x, 1, 1, 1);
        x.wet(5);
        odds(x, 1, 0, 1);
    }

    private static void oddsLost() {
        WorldIndex x = new WorldIndex();
        long lost = Long.MIN_VALUE;
        C.due("odds(0, 0) without BOOK", x.odds(0, 0), lost);
        Check.book(x, "i;l0019;l0009");
        C.due("odds(0, 0)", x.odds(0, 0), 1);
        C.due("odds(-1, 0)", x.odds(-1, 0), lost);
        C.due("odds(-9, 0)", x.odds(-9, 0), lost);
        C.due("odds(99, 0)", x.odds(99, 0), lost);
        C.due("odds(0, 2)", x.odds(0, 2), lost);
        C.due("odds(0, -1)", x.odds(0, -1), lost);
        x.want(0, 0);
        C.due("odds(0, 0), nothing ASKED for", x.odds(0, 0), lost);
        C.due("odds(0, 1), nothing ASKED for", x.odds(0, 1), lost);
    }
}
