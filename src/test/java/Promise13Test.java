/** Promise 13, ahead(): whether in some ORDER a call comes ahead of another one. */
public final class Promise13Test {
    public static void main(String[] args) {
        kindsOutOfBounds();
        callsOutOfBounds();
        callsUnlike();
        ofTwenty();
        openOnesMustBoothBeThere();
        ofNoOrder();
        byEnds();
        at6000And6001Stands();
        Check.end();
    }

    private static void kindsOutOfBounds() {
        OneTill x = Check.of(Books.SMALL);
        for (int kind : new int[] {-1, 3, 4, Integer.MIN_VALUE, Integer.MAX_VALUE}) {
            Check.refused("ahead(" + kind + ", 0, 1)", x, x.ahead(kind, 0, 1), 1);
        }
        for (int kind = 0; kind <= 2; kind++) {
            Check.fine("ahead(" + kind + ", 0, 1)", x, x.ahead(kind, 0, 1), 1);
            Check.fine("ahead(" + kind + ", 1, 0)", x, x.ahead(kind, 1, 0), 0);
        }
    }

    private static void callsOutOfBounds() {
        OneTill x = Check.of(Books.SMALL);
        for (int c : new int[] {-1, 5, 19, 20, 32, Integer.MIN_VALUE, Integer.MAX_VALUE}) {
            Check.refused("ahead(0, " + c + ", 1)", x, x.ahead(0, c, 1), 1);
            Check.refused("ahead(0, 1, " + c + ")", x, x.ahead(0, 1, c), 1);
        }
        Check.fine("the first and the last", x, x.ahead(0, 0, 4), 1);
        Check.fine("the last and the first", x, x.ahead(0, 4, 0), 0);
        Check.yes("lose", x, x.lose(4));
        Check.refused("there is no last one now", x, x.ahead(0, 0, 4), 1);
        Check.refused("there is no last one now", x, x.ahead(0, 4, 0), 1);
        OneTill y = Check.of(Books.EMPTY);
        Check.refused("no calls", y, y.ahead(0, 0, 1), 1);
    }

    private static void callsUnlike() {
        OneTill x = Check.of(Books.SMALL);
        for (int c = 0; c < 5; c++) {
            Check.refused("of itself", x, x.ahead(0, c, c), 1);
        }
    }

    private static void ofTwenty() {
        OneTill x = Check.of(Books.sees(20));
        Check.fine("0 of 19", x, x.ahead(0, 0, 19), 1);
        Check.fine("19 of 0", x, x.ahead(0, 19, 0), 0);
        Check.fine("18 of 19", x, x.ahead(1, 18, 19), 1);
        Check.fine("19 of 18", x, x.ahead(1, 19, 18), 0);
        Check.refused("20 of 0", x, x.ahead(0, 20, 0), 1);
    }

    private static void openOnesMustBoothBeThere() {
        OneTill x = Check.of(Books.SMALL);
        Check.fine("open ones", x, x.ahead(0, 3, 4), 1);
        Check.fine("open ones", x, x.ahead(0, 4, 3), 1);
        Check.fine("2 ended ahead of 3", x, x.ahead(0, 2, 3), 1);
        Check.fine("3 began behind 2", x, x.ahead(0, 3, 2), 0);
        // an open call that can come in no order with the other one behind it
        OneTill y = Check.of("law late 0;till d is drawer;cashier a,b;call b d put 3 from 1 open;"
                + "call a d see from 1 to 9 told 0");
        Check.fine("the put ahead of what sees nothing", y, y.ahead(0, 0, 1), 0);
        Check.fine("the put behind it", y, y.ahead(0, 1, 0), 1);
    }

    private static void ofNoOrder() {
        OneTill x = Check.of(Books.NEVER + ";call b d see from 1 to 2 told 0");
        for (int kind = 0; kind <= 2; kind++) {
            Check.fine("0 of 1", x, x.ahead(kind, 0, 1), 0);
            Check.fine("1 of 0", x, x.ahead(kind, 1, 0), 0);
        }
    }

    private static void byEnds() {
        for (int begin = 4; begin <= 8; begin++) {
            OneTill x = Check.of(Books.apart(2, 5, begin).replace("put 3", "see"));
            Check.fine("begin " + begin, x, x.ahead(0, 0, 1), 1);
            Check.fine("begin " + begin, x, x.ahead(0, 1, 0), begin <= 5 ? 1 : 0);
            Check.fine("begin " + begin, x, x.ahead(1, 1, 0), 1);
            Check.fine("begin " + begin, x, x.ahead(2, 1, 0), begin <= 7 ? 1 : 0);
        }
    }

    private static void at6000And6001Stands() {
        for (int kind = 0; kind <= 2; kind++) {
            OneTill x = Books.just(kind);
            Check.fine("6,000 stands, kind " + kind, x, x.ahead(kind, 0, 1), 1);
            OneTill y = Books.over(kind);
            Check.refused("6,001 stands, kind " + kind, y, y.ahead(kind, 0, 1), 3);
            Check.refused("1 ahead of 3, kind " + kind, y, y.ahead(kind, 0, 0), 1);
        }
    }
}
