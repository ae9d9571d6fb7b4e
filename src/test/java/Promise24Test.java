/** Promise 24, answer(): a call that ended told another number. */
public final class Promise24Test {
    public static void main(String[] args) {
        callsOutOfBounds();
        numbersOutOfBounds();
        openOnes();
        refusedItStays();
        tellsWhatItTold();
        oneAheadOfTwoAheadOfFive();
        nothingElseChanges();
        Check.end();
    }

    private static void callsOutOfBounds() {
        OneTill x = new OneTill();
        Check.refused("no book", x, x.answer(0, 0), 1);
        x = Check.of(Books.EMPTY);
        Check.refused("no calls", x, x.answer(0, 0), 1);
        x = Check.of(Books.SMALL);
        for (int c : new int[] {-1, 5, 19, 20, Integer.MIN_VALUE, Integer.MAX_VALUE}) {
            Check.refused("answer(" + c + ", 1)", x, x.answer(c, 1), 1);
        }
        Check.fine("the first", x, x.answer(0, 1), 0);
        x = Check.of(Books.sees(20));
        Check.fine("the twentieth", x, x.answer(19, 1), 0);
        Check.refused("the next", x, x.answer(20, 1), 1);
    }

    private static void numbersOutOfBounds() {
        OneTill x = Check.of(Books.SMALL);
        for (int v : new int[] {-1, -2, 100, 101, Integer.MIN_VALUE, Integer.MAX_VALUE}) {
            Check.refused("answer(0, " + v + ")", x, x.answer(0, v), 2);
        }
        Check.fine("99", x, x.answer(0, 99), 0);
        Check.fine("0", x, x.answer(0, 0), 99);
        Check.fine("1", x, x.answer(0, 1), 0);
    }

    private static void openOnes() {
        OneTill x = Check.of(Books.SMALL);
        Check.fine("the last that ended", x, x.answer(2, 4), 1);
        Check.refused("the first open one", x, x.answer(3, 4), 5);
        Check.refused("the last one", x, x.answer(4, 4), 5);
        Check.due("it tells nothing", x.call(3, 6), -2);
        Check.due("it is open", x.call(3, 5), -2);
        Check.due("two are", x.told(3), 2);
    }

    private static void refusedItStays() {
        OneTill x = Check.of(Books.SMALL);
        Check.refused("100", x, x.answer(1, 100), 2);
        Check.refused("-1", x, x.answer(1, -1), 2);
        Check.due("what it told", x.call(1, 6), 4);
        Check.fine("can", x, x.can(0), 1);
    }

    private static void tellsWhatItTold() {
        OneTill x = Check.of(Books.SMALL);
        int before = 4;
        for (int v : new int[] {0, 99, 50, 4}) {
            Check.fine("answer(1, " + v + ")", x, x.answer(1, v), before);
            Check.fine("seen", x, x.call(1, 6), v);
            Check.fine("can", x, x.can(0), v == 0 || v == 4 ? 1 : 0);
            before = v;
        }
    }

    private static void oneAheadOfTwoAheadOfFive() {
        OneTill x = Check.of(Books.SMALL);
        Check.refused("1 ahead of 2", x, x.answer(5, 100), 1);
        Check.refused("2 ahead of 5", x, x.answer(3, 100), 2);
        Check.refused("2 ahead of 5", x, x.answer(4, -1), 2);
        Check.refused("5", x, x.answer(4, 99), 5);
    }

    private static void nothingElseChanges() {
        OneTill x = Check.of(Books.SMALL);
        Check.fine("mark", x, x.mark(), 0);
        x.seed(7);
        Check.fine("answer", x, x.answer(1, 8), 4);
        Check.seen("it", x, 1, 1, 0, 2, 0, 2, 6, 8);
        Check.seen("the one ahead", x, 0, Books.SMALL_CALLS[0]);
        Check.seen("the one behind", x, 2, Books.SMALL_CALLS[2]);
        Check.due("SEED", x.told(5), 7);
        Check.due("MARKS", x.told(6), 1);
        Check.yes("back", x, x.back(0));
        Check.due("the mark keeps what was told", x.call(1, 6), 4);
    }
}
