/** Promise 21, seed(): SEED is told. */
public final class Promise21Test {
    public static void main(String[] args) {
        noBook();
        numbersOutOfBounds();
        refusedItStays();
        callsStay();
        whatIsMadeBeginsWithIt();
        Check.end();
    }

    private static void noBook() {
        OneTill x = new OneTill();
        for (int v : new int[] {-1, 0, 65536, 65537}) {
            Check.no("seed(" + v + ")", x, x.seed(v), 1);
            Check.due("SEED", x.told(5), 0);
        }
    }

    private static void numbersOutOfBounds() {
        OneTill x = Check.of(Books.EMPTY);
        for (int v : new int[] {-1, 65537, 65538, Integer.MIN_VALUE, Integer.MAX_VALUE}) {
            Check.no("seed(" + v + ")", x, x.seed(v), 2);
            Check.due("SEED", x.told(5), 0);
        }
        for (int v : new int[] {0, 1, 65535, 65536}) {
            Check.yes("seed(" + v + ")", x, x.seed(v));
            Check.due("SEED", x.told(5), v);
        }
    }

    private static void refusedItStays() {
        OneTill x = Check.of(Books.EMPTY);
        Check.yes("seed", x, x.seed(65536));
        Check.no("seed", x, x.seed(65537), 2);
        Check.due("SEED", x.told(5), 65536);
        Check.no("seed", x, x.seed(-1), 2);
        Check.due("SEED", x.told(5), 65536);
    }

    private static void callsStay() {
        OneTill x = Check.of(Books.SMALL);
        Check.fine("mark", x, x.mark(), 0);
        Check.yes("seed", x, x.seed(4711));
        int[] due = {2, 3, 5, 2, 5, 4711, 1, 0};
        for (int w = 0; w < due.length; w++) {
            Check.due("told " + w, x.told(w), due[w]);
        }
    }

    private static void whatIsMadeBeginsWithIt() {
        OneTill x = Check.of(Books.EMPTY);
        for (int v : new int[] {0, 1, 872, 873, 65535, 65536}) {
            Check.yes("seed(" + v + ")", x, x.seed(v));
            int minute = x.make(0, 5);
            int behind = x.told(5);
            Check.yes("seed again", x, x.seed(v));
            Check.fine("the same again", x, x.make(0, 5), minute);
            Check.due("the same SEED behind it", x.told(5), behind);
        }
    }
}
