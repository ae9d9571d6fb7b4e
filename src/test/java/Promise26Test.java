/** Promise 26, opens(): a cashier's last call that ended is open from now on. */
public final class Promise26Test {
    public static void main(String[] args) {
        cashiersOutOfBounds();
        itHasNone();
        itsLastOneIsOpen();
        itsLastOneThatEnded();
        oneByOne();
        whatItTellsThen();
        nothingElseChanges();
        Check.end();
    }

    private static void cashiersOutOfBounds() {
        OneTill x = new OneTill();
        Check.refused("no book", x, x.opens(0), 1);
        String names = "";
        for (int n = 1; n <= 4; n++) {
            names += (n > 1 ? "," : "") + "abcd".charAt(n - 1);
            x = Check.of("law late 0;till t is set;cashier " + names);
            for (int k = 0; k < n; k++) {
                Check.refused("a cashier without a call", x, x.opens(k), 6);
            }
            for (int k : new int[] {-1, n, 4, 5, Integer.MIN_VALUE, Integer.MAX_VALUE}) {
                Check.refused("opens(" + k + ") of " + n, x, x.opens(k), 1);
            }
        }
    }

    private static void itHasNone() {
        OneTill x = Check.of(Books.SMALL);
        Check.refused("c has none", x, x.opens(2), 6);
        x = Check.of("law late 0;till d is drawer;cashier a,b;call a d see from 1 to 2 told 0");
        Check.refused("b has none", x, x.opens(1), 6);
        Check.yes("lose", x, x.lose(0));
        Check.refused("a has none now", x, x.opens(0), 6);
    }

    private static void itsLastOneIsOpen() {
        OneTill x = Check.of(Books.SMALL);
        Check.refused("a's last one", x, x.opens(0), 5);
        Check.refused("b's last one", x, x.opens(1), 5);
        Check.due("as many as were", x.told(3), 2);
        Check.seen("the one ahead", x, 2, Books.SMALL_CALLS[2]);
        x = Check.of(Books.EMPTY + ";call a d see from 1 open");
        Check.refused("its only one", x, x.opens(0), 5);
    }

    private static void itsLastOneThatEnded() {
        OneTill x = Check.of("law late 0;till d is drawer;cashier a,b;call a d see from 1 to 2 told 0;"
                + "call b d see from 1 to 2 told 0;call a d see from 3 to 4 told 0;call b d see from 5 to 6 told 0");
        Check.fine("a's", x, x.opens(0), 2);
        Check.fine("b's", x, x.opens(1), 3);
        Check.refused("a's again", x, x.opens(0), 5);
        Check.refused("b's again", x, x.opens(1), 5);
        Check.due("two are open", x.told(3), 2);
        x = Check.of(Books.sees(20));
        Check.fine("the twentieth", x, x.opens(0), 19);
    }

    private static void oneByOne() {
        OneTill x = Check.of(Books.sees(20));
        for (int c = 19; c >= 0; c--) {
            Check.fine("opens", x, x.opens(0), c);
            Check.refused("again", x, x.opens(0), 5);
            Check.yes("lose", x, x.lose(c));
        }
        Check.refused("none is left", x, x.opens(0), 6);
    }

    private static void whatItTellsThen() {
        OneTill x = Check.of("law late 0;till d is drawer;cashier a,b;call a d see from 3 to 4 told 5;"
                + "call b d put 5 from 5 to 6 told 0");
        Check.fine("never", x, x.can(0), 0);
        Check.fine("opens", x, x.opens(0), 0);
        Check.seen("it", x, 0, 0, 0, 2, 0, 3, -2, -2);
        Check.fine("whatever it would tell", x, x.can(0), 1);
        Check.refused("it tells nothing", x, x.answer(0, 5), 5);
        Check.due("it is led", x.led(0), 0);
    }

    private static void nothingElseChanges() {
        OneTill x = Check.of(Books.SMALL);
        Check.yes("lose", x, x.lose(4));
        x.seed(7);
        Check.fine("mark", x, x.mark(), 0);
        Check.fine("opens", x, x.opens(0), 2);
        int[] due = {2, 3, 4, 2, 5, 7, 1, 0};
        for (int w = 0; w < due.length; w++) {
            Check.due("told " + w, x.told(w), due[w]);
        }
        Check.seen("the one ahead", x, 0, Books.SMALL_CALLS[0]);
        Check.yes("back", x, x.back(0));
        Check.due("the mark keeps its end", x.call(2, 5), 8);
        Check.due("and what it told", x.call(2, 6), 1);
    }
}
