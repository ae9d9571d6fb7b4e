/** Promise 28, mark(): a MARK's number. */
public final class Promise28Test {
    public static void main(String[] args) {
        noBook();
        upToThree();
        refusedNothingIsKept();
        aBookForgetsThem();
        keepsCallsAndSeed();
        keepsNoCallsAndTwenty();
        Check.end();
    }

    private static void noBook() {
        OneTill x = new OneTill();
        Check.refused("mark", x, x.mark(), 1);
        Check.due("MARKS", x.told(6), 0);
    }

    private static void upToThree() {
        OneTill x = Check.of(Books.SMALL);
        for (int m = 0; m < 3; m++) {
            Check.due("MARKS", x.told(6), m);
            Check.fine("mark", x, x.mark(), m);
        }
        Check.refused("a fourth one", x, x.mark(), 3);
        Check.due("MARKS", x.told(6), 3);
        Check.refused("a fifth one", x, x.mark(), 3);
        Check.yes("back", x, x.back(2));
        Check.refused("still three", x, x.mark(), 3);
    }

    private static void refusedNothingIsKept() {
        OneTill x = Check.of(Books.SMALL);
        for (int m = 0; m < 3; m++) {
            x.seed(m);
            x.mark();
        }
        x.seed(9);
        x.lose(0);
        Check.refused("mark", x, x.mark(), 3);
        for (int m = 2; m >= 0; m--) {
            Check.yes("back", x, x.back(m));
            Check.due("SEED", x.told(5), m);
            Check.due("calls", x.told(2), 5);
        }
        Check.no("back to the refused one", x, x.back(3), 1);
    }

    private static void aBookForgetsThem() {
        OneTill x = Check.of(Books.SMALL);
        x.mark();
        x.mark();
        x.mark();
        Check.refused("a text that is no book", x, Check.book(x, "law"), 4);
        Check.refused("three still", x, x.mark(), 3);
        Check.refused("bytes that aren't there", x, x.book(1), 2);
        Check.refused("three still", x, x.mark(), 3);
        Check.fine("a book", x, Check.book(x, Books.EMPTY), 0);
        Check.fine("mark", x, x.mark(), 0);
        Check.fine("mark", x, x.mark(), 1);
    }

    private static void keepsCallsAndSeed() {
        OneTill x = Check.of(Books.SMALL);
        x.seed(65536);
        Check.fine("mark", x, x.mark(), 0);
        x.seed(1);
        x.answer(0, 9);
        x.lose(1);
        x.lose(2);
        x.lose(2);
        x.opens(0);
        Check.yes("back", x, x.back(0));
        Check.due("SEED", x.told(5), 65536);
        for (int c = 0; c < 5; c++) {
            Check.seen("", x, c, Books.SMALL_CALLS[c]);
        }
    }

    private static void keepsNoCallsAndTwenty() {
        OneTill x = Check.of(Books.sees(20));
        Check.fine("mark", x, x.mark(), 0);
        for (int i = 0; i < 20; i++) {
            x.lose(0);
        }
        Check.fine("mark", x, x.mark(), 1);
        x.make(0, 20);
        Check.yes("back to none", x, x.back(1));
        Check.due("calls", x.told(2), 0);
        Check.yes("back to twenty", x, x.back(0));
        Check.due("calls", x.told(2), 20);
        for (int c = 0; c < 20; c++) {
            Check.seen("", x, c, 0, 0, 2, 0, c, c, 0);
        }
    }
}
