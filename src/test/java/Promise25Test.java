/** Promise 25, lose(): a call is there no more. */
public final class Promise25Test {
    public static void main(String[] args) {
        callsOutOfBounds();
        theFirstAndTheLast();
        thoseBehindItAreOneLower();
        tillNoneIsLeft();
        openOnes();
        whatComesAheadIsLost();
        nothingElseChanges();
        Check.end();
    }

    private static void callsOutOfBounds() {
        OneTill x = new OneTill();
        Check.no("no book", x, x.lose(0), 1);
        x = Check.of(Books.EMPTY);
        Check.no("no calls", x, x.lose(0), 1);
        x = Check.of(Books.SMALL);
        for (int c : new int[] {-1, 5, 19, 20, Integer.MIN_VALUE, Integer.MAX_VALUE}) {
            Check.no("lose(" + c + ")", x, x.lose(c), 1);
            Check.due("all are there", x.told(2), 5);
        }
        x = Check.of(Books.sees(20));
        Check.no("lose(20)", x, x.lose(20), 1);
        Check.yes("lose(19)", x, x.lose(19));
        Check.no("lose(19) again", x, x.lose(19), 1);
        Check.due("19 left", x.told(2), 19);
    }

    private static void theFirstAndTheLast() {
        OneTill x = Check.of(Books.SMALL);
        Check.yes("the last", x, x.lose(4));
        for (int c = 0; c < 4; c++) {
            Check.seen("", x, c, Books.SMALL_CALLS[c]);
        }
        Check.refused("gone", x, x.call(4, 0), 1);
        Check.yes("the first", x, x.lose(0));
        for (int c = 0; c < 3; c++) {
            Check.seen("", x, c, Books.SMALL_CALLS[c + 1]);
        }
        Check.refused("gone", x, x.call(3, 0), 1);
    }

    private static void thoseBehindItAreOneLower() {
        for (int lost = 0; lost < 5; lost++) {
            OneTill x = Check.of(Books.SMALL);
            Check.yes("lose", x, x.lose(lost));
            for (int c = 0; c < 4; c++) {
                Check.seen("lost " + lost, x, c, Books.SMALL_CALLS[c < lost ? c : c + 1]);
            }
            Check.due("four", x.told(2), 4);
        }
        OneTill x = Check.of(Books.sees(20));
        x.lose(5);
        Check.due("the last one's begin", x.call(18, 4), 19);
        Check.due("the sixth one's begin", x.call(5, 4), 6);
    }

    private static void tillNoneIsLeft() {
        OneTill x = Check.of(Books.sees(20));
        for (int left = 19; left >= 0; left--) {
            Check.yes("lose(0)", x, x.lose(0));
            Check.due("left", x.told(2), left);
        }
        Check.no("none is left", x, x.lose(0), 1);
        Check.fine("the empty order", x, x.size(0), 0);
        Check.fine("one stand", x, x.stands(0), 1);
        Check.refused("no last one", x, x.opens(0), 6);
    }

    private static void openOnes() {
        OneTill x = Check.of(Books.SMALL);
        Check.yes("an open one", x, x.lose(3));
        Check.due("one is open", x.told(3), 1);
        Check.due("it", x.led(0), 3);
        Check.ledThrows("the other", x, 1);
    }

    private static void whatComesAheadIsLost() {
        OneTill x = Check.of("law late 0;till d is drawer;cashier a,b;call a d put 3 from 1 to 2 told 0;"
                + "call b d see from 3 to 4 told 0");
        Check.fine("no order", x, x.can(0), 0);
        Check.yes("lose", x, x.lose(0));
        Check.fine("an order", x, x.can(0), 1);
        Check.fine("of one", x, x.size(0), 1);
        Check.fine("it", x, x.order(0, 0), 0);
    }

    private static void nothingElseChanges() {
        OneTill x = Check.of(Books.SMALL);
        x.seed(7);
        Check.fine("mark", x, x.mark(), 0);
        Check.yes("lose", x, x.lose(0));
        int[] due = {2, 3, 4, 2, 5, 7, 1, 0};
        for (int w = 0; w < due.length; w++) {
            Check.due("told " + w, x.told(w), due[w]);
        }
        Check.yes("back", x, x.back(0));
        Check.due("the mark keeps it", x.told(2), 5);
    }
}
