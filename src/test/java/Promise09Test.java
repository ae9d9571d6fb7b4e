/** Promise 9, order(): the i-th call of FIRST ORDER. */
public final class Promise09Test {
    public static void main(String[] args) {
        kindsOutOfBounds();
        placesOutOfBounds();
        ofNoCalls();
        ofTwenty();
        firstByNumbers();
        theBeginningOfAnotherComesFirst();
        thereIsNoOrder();
        at6000And6001Stands();
        Check.end();
    }

    private static void kindsOutOfBounds() {
        OneTill x = Check.of(Books.SMALL);
        for (int kind : new int[] {-1, 3, 4, Integer.MIN_VALUE, Integer.MAX_VALUE}) {
            Check.refused("order(" + kind + ", 0)", x, x.order(kind, 0), 1);
        }
        for (int kind = 0; kind <= 2; kind++) {
            Check.fine("order(" + kind + ", 0)", x, x.order(kind, 0), 0);
        }
    }

    private static void placesOutOfBounds() {
        OneTill x = Check.of(Books.SMALL);
        for (int kind = 0; kind <= 2; kind++) {
            Check.refused("-1", x, x.order(kind, -1), 1);
            Check.fine("0", x, x.order(kind, 0), 0);
            Check.fine("1", x, x.order(kind, 1), 1);
            Check.fine("2", x, x.order(kind, 2), 2);
            // five calls, of which the first order has three
            for (int i : new int[] {3, 4, 5, 20, Integer.MAX_VALUE, Integer.MIN_VALUE}) {
                Check.refused("order(" + kind + ", " + i + ")", x, x.order(kind, i), 1);
            }
        }
    }

    private static void ofNoCalls() {
        OneTill x = Check.of(Books.EMPTY);
        Check.refused("of none", x, x.order(0, 0), 1);
        Check.refused("of none", x, x.order(0, -1), 1);
    }

    private static void ofTwenty() {
        OneTill x = Check.of(Books.sees(20));
        for (int i = 0; i < 20; i++) {
            Check.fine("order(0, " + i + ")", x, x.order(0, i), i);
        }
        Check.refused("order(0, 20)", x, x.order(0, 20), 1);
    }

    private static void firstByNumbers() {
        // told in the order c, b, a; all at once: the first by numbers is as they are told
        OneTill x = Check.of("law late 0;till d is drawer;cashier a,b,c;call c d see from 1 to 9 told 0;"
                + "call b d see from 1 to 9 told 0;call a d put 5 from 1 to 9 told 0");
        for (int i = 0; i < 3; i++) {
            Check.fine("order(0, " + i + ")", x, x.order(0, i), i);
        }
        x.answer(0, 5);
        int[] due = {1, 2, 0};
        for (int i = 0; i < 3; i++) {
            Check.fine("c's behind a's: order(0, " + i + ")", x, x.order(0, i), due[i]);
        }
    }

    private static void theBeginningOfAnotherComesFirst() {
        OneTill x = Check.of("law late 0;till d is drawer;cashier a,b;call b d put 7 from 1 open;"
                + "call a d put 5 from 1 to 9 told 0");
        // 0, 1 is ahead of 1 by numbers, and 1 of 1, 0
        Check.fine("size", x, x.size(0), 2);
        Check.fine("the open one first", x, x.order(0, 0), 0);
        Check.fine("then the other", x, x.order(0, 1), 1);
        x = Check.of("law late 0;till d is drawer;cashier a,b;call a d put 5 from 1 to 9 told 0;"
                + "call b d put 7 from 1 open");
        Check.fine("size", x, x.size(0), 1);
        Check.fine("the open one isn't there", x, x.order(0, 0), 0);
        Check.refused("the open one isn't there", x, x.order(0, 1), 1);
    }

    private static void thereIsNoOrder() {
        OneTill x = Check.of(Books.NEVER);
        for (int kind = 0; kind <= 2; kind++) {
            Check.refused("none, kind " + kind, x, x.order(kind, 0), 6);
            Check.refused("none, kind " + kind, x, x.order(kind + 3, 0), 1);
        }
    }

    private static void at6000And6001Stands() {
        for (int kind = 0; kind <= 2; kind++) {
            OneTill x = Books.just(kind);
            int n = x.size(kind);
            int seen = 0;
            for (int i = 0; i < n; i++) {
                seen |= 1 << x.order(kind, i);
                Check.due("trouble", x.trouble(), 0);
            }
            Check.due("6,000 stands: each call once, kind " + kind, Integer.bitCount(seen), n);
            OneTill y = Books.over(kind);
            Check.refused("6,001 stands, kind " + kind, y, y.order(kind, 0), 3);
            Check.refused("6,001 stands, kind " + kind, y, y.order(kind, 19), 3);
        }
    }
}
