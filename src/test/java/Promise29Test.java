/** Promise 29, back(): calls and SEED are as by a MARK. */
public final class Promise29Test {
    public static void main(String[] args) {
        marksOutOfBounds();
        refusedAllStays();
        allMarksStay();
        theLawStays();
        whatIsDoneBehindBackIsNotKept();
        Check.end();
    }

    private static void marksOutOfBounds() {
        OneTill x = new OneTill();
        Check.no("no book", x, x.back(0), 1);
        x = Check.of(Books.SMALL);
        for (int n = 0; n <= 3; n++) {
            for (int m = 0; m < n; m++) {
                Check.yes("back(" + m + ") of " + n, x, x.back(m));
            }
            for (int m : new int[] {-1, n, 3, 4, Integer.MIN_VALUE, Integer.MAX_VALUE}) {
                Check.no("back(" + m + ") of " + n, x, x.back(m), 1);
            }
            x.mark();
        }
    }

    private static void refusedAllStays() {
        OneTill x = Check.of(Books.SMALL);
        x.mark();
        x.seed(7);
        x.lose(0);
        Check.no("back(1)", x, x.back(1), 1);
        Check.no("back(-1)", x, x.back(-1), 1);
        Check.due("SEED", x.told(5), 7);
        Check.due("calls", x.told(2), 4);
        Check.seen("the first", x, 0, Books.SMALL_CALLS[1]);
    }

    private static void allMarksStay() {
        OneTill x = Check.of(Books.SMALL);
        for (int m = 0; m < 3; m++) {
            x.seed(100 + m);
            Check.fine("mark", x, x.mark(), m);
            x.lose(0);
        }
        for (int m : new int[] {0, 2, 1, 0, 0, 2}) {
            Check.yes("back(" + m + ")", x, x.back(m));
            Check.due("SEED", x.told(5), 100 + m);
            Check.due("calls", x.told(2), 5 - m);
            Check.seen("the first", x, 0, Books.SMALL_CALLS[m]);
            Check.due("MARKS", x.told(6), 3);
        }
    }

    private static void theLawStays() {
        OneTill x = Check.of(Books.SMALL);
        x.mark();
        x.late(99);
        Check.yes("back", x, x.back(0));
        Check.due("the law's minutes", x.told(4), 99);
        Check.due("tills", x.told(0), 2);
        Check.due("cashiers", x.told(1), 3);
        Check.due("bytes", x.told(7), 0);
    }

    private static void whatIsDoneBehindBackIsNotKept() {
        OneTill x = Check.of(Books.SMALL);
        x.mark();
        Check.yes("back", x, x.back(0));
        x.answer(0, 77);
        x.make(1, 20);
        x.seed(9);
        Check.yes("back", x, x.back(0));
        for (int c = 0; c < 5; c++) {
            Check.seen("", x, c, Books.SMALL_CALLS[c]);
        }
        Check.due("SEED", x.told(5), 0);
        Check.due("two are open", x.told(3), 2);
        Check.fine("orders", x, x.orders(0), 10);
    }
}
