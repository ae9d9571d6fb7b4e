/** An object is used for 512 calls: what the last of them answer is as what the first ones did. */
public final class UseTest {
    private static final int CALLS = 512;

    public static void main(String[] args) {
        ofDearCalls();
        ofRefusedCalls();
        ofBooks();
        Check.end();
    }

    private static void ofDearCalls() {
        OneTill x = Books.just(0);
        long orders = x.orders(0);
        int mends = x.mends();
        int enough = x.enough();
        // a book of 45 feeds at most, lose(), and the three above are used by now
        for (int i = 60; i < CALLS - 8; i++) {
            switch (i % 8) {
                case 0 -> x.breaks(3, i % 3, 8);
                case 1 -> x.bad(0);
                case 2 -> x.could(0, i % 13);
                case 3 -> x.can(1);
                case 4 -> x.core(0);
                case 5 -> x.ahead(0, i % 13, (i + 1) % 13);
                case 6 -> x.enough();
                default -> x.ends(0);
            }
        }
        Check.fine("orders", x, x.orders(0), orders);
        Check.fine("stands", x, x.stands(0), 6000);
        Check.refused("mends", x, x.mends(), 5);
        Check.due("mends", -1, mends);
        Check.fine("enough", x, x.enough(), enough);
    }

    private static void ofRefusedCalls() {
        OneTill x = Check.of(Books.SMALL);
        for (int i = 60; i < CALLS - 6; i++) {
            switch (i % 6) {
                case 0 -> Check.refused("can", x, x.can(4), 1);
                case 1 -> Check.refused("make", x, x.make(0, 21), 2);
                case 2 -> Check.refused("answer", x, x.answer(4, 1), 5);
                case 3 -> Check.refused("opens", x, x.opens(2), 6);
                case 4 -> Check.refused("book", x, x.book(0), 4);
                default -> Check.no("seed", x, x.seed(65537), 2);
            }
        }
        Check.fine("orders", x, x.orders(0), 10);
        Check.seen("the last", x, 4, Books.SMALL_CALLS[4]);
    }

    private static void ofBooks() {
        OneTill x = new OneTill();
        int calls = 0;
        for (int i = 0; calls < CALLS - 20; i++) {
            String text = i % 2 == 0 ? Books.EMPTY : Books.NEVER;
            calls += (text.length() + 19) / 20 + 2;
            Check.fine("book " + i, x, Check.book(x, text), i % 2);
            Check.fine("can " + i, x, x.can(0), i % 2 == 0 ? 1 : 0);
        }
    }
}
