/** Promise 31, led(): the i-th call that is open. */
public final class Promise31Test {
    public static void main(String[] args) {
        thereIsNone();
        placesOutOfBounds();
        oneToFour();
        byNumbers();
        hasNoTrouble();
        Check.end();
    }

    private static void thereIsNone() {
        for (int i : new int[] {-1, 0, 1, Integer.MIN_VALUE, Integer.MAX_VALUE}) {
            Check.ledThrows("no book", new OneTill(), i);
            Check.ledThrows("no calls", Check.of(Books.EMPTY), i);
            Check.ledThrows("none that is open", Check.of(Books.sees(20)), i);
        }
    }

    private static void placesOutOfBounds() {
        OneTill x = Check.of(Books.SMALL);
        for (int i : new int[] {-1, 2, 3, 5, 20, Integer.MIN_VALUE, Integer.MAX_VALUE}) {
            Check.ledThrows("two are open", x, i);
        }
        Check.due("the first", x.led(0), 3);
        Check.due("the last", x.led(1), 4);
    }

    private static void oneToFour() {
        String text = "law late 0;till t is drawer;cashier a,b,c,d";
        for (int n = 1; n <= 4; n++) {
            text += ";call " + "abcd".charAt(n - 1) + " t see from 5 open";
            OneTill x = Check.of(text);
            for (int i = 0; i < n; i++) {
                Check.due("led(" + i + ")", x.led(i), i);
            }
            Check.ledThrows(n + " are open", x, n);
            Check.ledThrows(n + " are open", x, -1);
        }
    }

    private static void byNumbers() {
        OneTill x = Check.of(Books.sees(19).replace("cashier a", "cashier a,b") + ";call b c see from 0 open");
        Check.due("the twentieth", x.led(0), 19);
        Check.ledThrows("it alone", x, 1);
        x.opens(0);
        Check.due("by numbers", x.led(0), 18);
        Check.due("by numbers", x.led(1), 19);
        x.lose(18);
        Check.due("one lower", x.led(0), 18);
        x.lose(18);
        Check.ledThrows("none", x, 0);
    }

    private static void hasNoTrouble() {
        OneTill x = Check.of(Books.SMALL);
        Check.refused("can", x, x.can(9), 1);
        x.led(0);
        Check.due("trouble stays", x.trouble(), 1);
        Check.fine("can", x, x.can(0), 1);
        Check.ledThrows("two are open", x, 2);
        Check.due("trouble stays", x.trouble(), 0);
        Check.due("calls stay", x.told(2), 5);
    }
}
