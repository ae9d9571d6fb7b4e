/** Promise 3, book(): the first n bytes of THE TAPE. */
public final class Promise03Test {
    public static void main(String[] args) {
        refusesNumbersOutOfBounds();
        tapeStaysByTwo();
        takesTheFirstBytesAlone();
        ofNoBytes();
        ofAllBytes();
        tapeIsEmptyThen();
        seedAndMarksAreGone();
        bookStaysByFour();
        nothingStaysOfWhatWasRefused();
        tellsHowManyCalls();
        Check.end();
    }

    private static void refusesNumbersOutOfBounds() {
        OneTill x = new OneTill();
        Check.refused("book(1) of an empty tape", x, x.book(1), 2);
        Check.refused("book(-1) of an empty tape", x, x.book(-1), 2);
        Check.feed(x, Books.EMPTY);
        Check.due("bytes", x.told(7), 40);
        int[] no = {-1, -20, Integer.MIN_VALUE, 41, 60, 900, 901, Integer.MAX_VALUE};
        for (int n : no) {
            Check.refused("book(" + n + ")", x, x.book(n), 2);
            Check.due("where", x.where(), -1);
        }
        Check.fine("book(40), all there is", x, x.book(40), 0);
    }

    private static void tapeStaysByTwo() {
        OneTill x = new OneTill();
        Check.feed(x, Books.SMALL);
        int there = x.told(7);
        Check.refused("one more", x, x.book(there + 1), 2);
        Check.due("bytes", x.told(7), there);
        Check.refused("one less than none", x, x.book(-1), 2);
        Check.due("bytes", x.told(7), there);
        Check.fine("the same bytes are a book", x, x.book(Books.SMALL.length()), 5);
    }

    private static void takesTheFirstBytesAlone() {
        String text = "law late 55;cashier a;till t is set;call a t put 1 from 2 to 3 told 78;?";
        int end = text.length() - 2;
        OneTill x = new OneTill();
        Check.feed(x, text);
        Check.fine("all but what is no token", x, x.book(end), 1);
        Check.due("told", x.call(0, 6), 78);
        Check.feed(x, text);
        Check.fine("a byte less", x, x.book(end - 1), 1);
        Check.due("told", x.call(0, 6), 7);
        Check.feed(x, text);
        Check.refused("two bytes less", x, x.book(end - 2), 4);
        Check.due("the end", x.where(), end - 2);
        Check.feed(x, text);
        Check.refused("a byte more", x, x.book(end + 1), 4);
        Check.due("the end", x.where(), end + 1);
        Check.feed(x, text);
        Check.refused("two bytes more", x, x.book(end + 2), 4);
        Check.due("no token", x.where(), end + 1);
    }

    private static void ofNoBytes() {
        OneTill x = new OneTill();
        Check.refused("book(0) of an empty tape", x, x.book(0), 4);
        Check.due("fault", x.fault(), 1);
        Check.due("where", x.where(), 0);
        Check.feed(x, Books.EMPTY);
        Check.refused("book(0)", x, x.book(0), 4);
        Check.due("fault", x.fault(), 1);
        Check.due("where", x.where(), 0);
        Check.due("the tape is empty", x.told(7), 0);
    }

    private static void ofAllBytes() {
        StringBuilder text = new StringBuilder("law late 3;till abcdefgh is counter;cashier ijklmnop");
        for (int i = 0; i < 20; i++) {
            text.append(";call ijklmnop abcdefgh put from ").append(10 + i).append(" to ").append(10 + i);
            text.append(" told ");
            text.append(i + 1);
        }
        String tight = text.toString().replace("ijklmnop", "ij").replace("abcdefgh", "ab");
        StringBuilder full = new StringBuilder();
        while (full.length() + tight.length() < 900) {
            full.append(' ');
        }
        full.append(tight);
        OneTill x = new OneTill();
        Check.fine("900 bytes, the last one a digit", x, Check.book(x, full.toString()), 20);
        Check.seen("the last", x, 19, 0, 0, 0, 0, 29, 29, 20);
        Check.fine("can", x, x.can(0), 1);
    }

    private static void tapeIsEmptyThen() {
        OneTill x = new OneTill();
        Check.feed(x, Books.EMPTY + "                    ");
        Check.fine("book", x, x.book(Books.EMPTY.length()), 0);
        Check.due("bytes", x.told(7), 0);
        Check.refused("none are left", x, x.book(1), 2);
        Check.feed(x, "law");
        Check.refused("book", x, x.book(3), 4);
        Check.due("bytes behind a fault", x.told(7), 0);
    }

    private static void seedAndMarksAreGone() {
        OneTill x = Check.of(Books.SMALL);
        Check.yes("seed", x, x.seed(65536));
        Check.fine("mark", x, x.mark(), 0);
        Check.fine("mark", x, x.mark(), 1);
        Check.fine("book", x, Check.book(x, Books.EMPTY), 0);
        Check.due("SEED", x.told(5), 0);
        Check.due("MARKS", x.told(6), 0);
        Check.no("back", x, x.back(0), 1);
        Check.fine("the first mark again", x, x.mark(), 0);
        Check.due("law", x.told(4), 0);
        Check.due("tills", x.told(0), 1);
        Check.due("cashiers", x.told(1), 1);
    }

    private static void bookStaysByFour() {
        OneTill x = Check.of(Books.SMALL);
        Check.yes("seed", x, x.seed(77));
        Check.fine("mark", x, x.mark(), 0);
        String[] faulty = {"", "?", "law late 9;till t is set;cashier z;call z t put 1 from 2 to 3 told 100",
            "law late 9;till t is set;till u is set;till v is set;cashier e", "till t is set;cashier z"};
        faulty[3] += ";till w is set";
        for (String text : faulty) {
            Check.refused(text, x, Check.book(x, text), 4);
            int[] same = {2, 3, 5, 2, 5, 77, 1, 0};
            for (int w = 0; w < same.length; w++) {
                Check.due(text + " told " + w, x.told(w), same[w]);
            }
            for (int c = 0; c < 5; c++) {
                Check.seen(text, x, c, Books.SMALL_CALLS[c]);
            }
            Check.fine(text + " orders", x, x.orders(0), 10);
            Check.fine(text + " each", x, x.each(1), 1);
        }
        Check.yes("back", x, x.back(0));
    }

    private static void nothingStaysOfWhatWasRefused() {
        OneTill x = new OneTill();
        String text = "law late 9;till t is set;till u is set;till v is set;cashier a,b,c,d;"
                + "call a t put 1 from 5 open;call a";
        Check.refused("a text with a fault", x, Check.book(x, text), 4);
        Check.fine("the same names", x, Check.book(x, text.substring(0, text.lastIndexOf(';'))), 1);
        Check.refused("a text with a fault", x, Check.book(x, text), 4);
        Check.fine("one till, one cashier", x, Check.book(x, "law late 0;till t is queue;cashier a;"
                + "call a t take from 0 open"), 1);
        Check.due("tills", x.told(0), 1);
        Check.due("cashiers", x.told(1), 1);
        Check.refused("no law", x, Check.book(x, "till t is queue;cashier a"), 4);
        Check.due("LACKS", x.fault(), 6);
        Check.refused("no till", x, Check.book(x, "law late 1;cashier a"), 4);
        Check.due("LACKS", x.fault(), 6);
        Check.refused("no cashier", x, Check.book(x, "law late 1;till t is set"), 4);
        Check.due("LACKS", x.fault(), 6);
    }

    private static void tellsHowManyCalls() {
        StringBuilder text = new StringBuilder("law late 0;till c is counter;cashier a");
        for (int n = 0; n <= 20; n++) {
            OneTill x = new OneTill();
            Check.fine(n + " calls", x, Check.book(x, text.toString()), n);
            Check.due(n + " calls told", x.told(2), n);
            text.append(";call a c see from ").append(n).append(" to ").append(n).append(" told 0");
        }
        OneTill x = new OneTill();
        Check.refused("21 calls", x, Check.book(x, text.toString()), 4);
        Check.due("MANY", x.fault(), 5);
    }
}
