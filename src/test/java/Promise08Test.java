/** Promise 8, size(): how many calls FIRST ORDER has. */
public final class Promise08Test {
    public static void main(String[] args) {
        kindsOutOfBounds();
        noneToTwenty();
        openOnesAreLeftOut();
        openOnesThatAreNeeded();
        thereIsNoOrder();
        at6000And6001Stands();
        Check.end();
    }

    private static void kindsOutOfBounds() {
        OneTill x = Check.of(Books.SMALL);
        for (int kind : new int[] {-1, 3, 4, Integer.MIN_VALUE, Integer.MAX_VALUE}) {
            Check.refused("size(" + kind + ")", x, x.size(kind), 1);
        }
        for (int kind = 0; kind <= 2; kind++) {
            Check.fine("size(" + kind + ")", x, x.size(kind), 3);
        }
    }

    private static void noneToTwenty() {
        for (int n = 0; n <= 20; n++) {
            OneTill x = Check.of(Books.sees(n));
            for (int kind = 0; kind <= 2; kind++) {
                Check.fine(n + " calls, kind " + kind, x, x.size(kind), n);
            }
        }
    }

    private static void openOnesAreLeftOut() {
        OneTill x = Check.of(Books.EMPTY + ";call a d see from 1 open");
        Check.fine("open ones alone", x, x.size(0), 0);
        x = Check.of(Books.EMPTY + ";call a d see from 1 to 2 told 0;call a d see from 3 open");
        Check.fine("one of two", x, x.size(0), 1);
        Check.fine("opened", x, x.lose(1) ? x.opens(0) : -9, 0);
        Check.fine("none of one", x, x.size(0), 0);
    }

    private static void openOnesThatAreNeeded() {
        OneTill x = Check.of("law late 0;till d is drawer;cashier a,b;call a d see from 1 to 9 told 3;"
                + "call b d put 3 from 9 open");
        for (int kind = 0; kind <= 2; kind++) {
            Check.fine("what is seen was put by the open one", x, x.size(kind), 2);
        }
    }

    private static void thereIsNoOrder() {
        OneTill x = Check.of(Books.NEVER);
        for (int kind = 0; kind <= 2; kind++) {
            Check.refused("none, kind " + kind, x, x.size(kind), 6);
        }
        x.answer(0, 0);
        Check.fine("now", x, x.size(0), 1);
    }

    private static void at6000And6001Stands() {
        int[] ended = {11, 20, 16};
        for (int kind = 0; kind <= 2; kind++) {
            OneTill x = Books.just(kind);
            Check.due("6,000 stands, kind " + kind, x.size(kind) >= ended[kind], true);
            Check.due("trouble", x.trouble(), 0);
            OneTill y = Books.over(kind);
            Check.refused("6,001 stands, kind " + kind, y, y.size(kind), 3);
        }
    }
}
