/** Promise 15, bad(): the first behind whose end there is no ORDER. */
public final class Promise15Test {
    public static void main(String[] args) {
        kindsOutOfBounds();
        thereIsNone();
        byEndsThenByLines();
        whatBeganByThenIsThere();
        laterEndsAreOpen();
        openOnesAreNeverBad();
        eachKindByItself();
        at6000And6001Stands();
        upToItAlone();
        Check.end();
    }

    private static void kindsOutOfBounds() {
        OneTill x = Check.of(Books.NEVER);
        for (int kind : new int[] {-1, 3, 4, Integer.MIN_VALUE, Integer.MAX_VALUE}) {
            Check.refused("bad(" + kind + ")", x, x.bad(kind), 1);
        }
        for (int kind = 0; kind <= 2; kind++) {
            Check.fine("bad(" + kind + ")", x, x.bad(kind), 0);
        }
    }

    private static void thereIsNone() {
        for (int kind = 0; kind <= 2; kind++) {
            OneTill x = Check.of(Books.EMPTY);
            Check.fine("no calls, kind " + kind, x, x.bad(kind), -2);
            x = Check.of(Books.EMPTY + ";call a d put 3 from 1 open");
            Check.fine("an open one, kind " + kind, x, x.bad(kind), -2);
            x = Check.of(Books.SMALL);
            Check.fine("an order, kind " + kind, x, x.bad(kind), -2);
        }
    }

    private static void byEndsThenByLines() {
        String text = "law late 0;till d is drawer;cashier a,b,c;call a d see from 1 to A told 7;"
                + "call b d see from 1 to B told 8;call c d see from 1 to C told 9";
        int[][] ends = {{5, 5, 5, 0}, {6, 5, 5, 1}, {6, 6, 5, 2}, {5, 6, 5, 0}, {6, 5, 4, 2}, {4, 5, 6, 0}};
        for (int[] e : ends) {
            OneTill x = Check.of(text.replace("A", "" + e[0]).replace("B", "" + e[1]).replace("C", "" + e[2]));
            for (int kind = 0; kind <= 2; kind++) {
                Check.fine("ends " + e[0] + " " + e[1] + " " + e[2], x, x.bad(kind), e[3]);
            }
        }
    }

    /** A put that began by the end of what was seen mends it, whatever it tells; one that began behind it doesn't. */
    private static void whatBeganByThenIsThere() {
        for (int begin = 4; begin <= 7; begin++) {
            OneTill x = Check.of("law late 9;till d is drawer;cashier a,b;call a d see from 1 to 5 told 3;"
                    + "call b d put 3 from " + begin + " to 20 told 0");
            for (int kind = 0; kind <= 2; kind++) {
                Check.fine("put from " + begin + ", kind " + kind, x, x.bad(kind), begin <= 5 ? -2 : 0);
            }
            x.opens(1);
            Check.fine("an open put from " + begin, x, x.bad(1), begin <= 5 ? -2 : 0);
        }
    }

    private static void laterEndsAreOpen() {
        // call 1 told what can't be, but it ends later: call 0 isn't bad
        OneTill x = Check.of("law late 0;till d is drawer;cashier a,b;call a d see from 1 to 5 told 0;"
                + "call b d see from 1 to 6 told 4");
        Check.fine("the later one", x, x.bad(0), 1);
        // of two that end in one minute the one told later is open behind the other's end
        x = Check.of("law late 0;till d is drawer;cashier a,b;call b d see from 1 to 5 told 4;"
                + "call a d put 4 from 1 to 5 told 3");
        Check.fine("it could have put 4 by then", x, x.bad(0), 1);
        x = Check.of("law late 0;till d is drawer;cashier a,b;call a d put 4 from 1 to 5 told 3;"
                + "call b d see from 1 to 5 told 4");
        Check.fine("told ahead of the other", x, x.bad(0), 0);
    }

    private static void openOnesAreNeverBad() {
        OneTill x = Check.of("law late 0;till d is drawer;cashier a,b;call a d see from 1 to 5 told 4;"
                + "call b d see from 1 to 6 told 4");
        Check.fine("the first", x, x.bad(0), 0);
        x.opens(0);
        Check.fine("the other", x, x.bad(0), 1);
        x.opens(1);
        Check.fine("none", x, x.bad(0), -2);
    }

    private static void eachKindByItself() {
        for (int begin = 5; begin <= 9; begin++) {
            OneTill x = Check.of(Books.apart(2, 5, begin));
            Check.fine("ONE, begin " + begin, x, x.bad(0), begin <= 5 ? -2 : 1);
            Check.fine("OWN, begin " + begin, x, x.bad(1), -2);
            Check.fine("LATE, begin " + begin, x, x.bad(2), begin <= 7 ? -2 : 1);
        }
    }

    private static void at6000And6001Stands() {
        OneTill x = Check.of(Books.BAD_OVER);
        Check.refused("6,001 stands behind an end", x, x.bad(0), 3);
        Check.yes("lose", x, x.lose(0));
        Check.fine("6,000 stands at most", x, x.bad(0), -2);
    }

    private static void upToItAlone() {
        OneTill x = Check.of(Books.BAD_OVER);
        x.answer(0, 9);
        Check.fine("the first end", x, x.bad(0), 0);
        x.answer(0, 0);
        x.answer(13, 99);
        Check.refused("too many stands ahead of the last end", x, x.bad(0), 3);
        OneTill y = Books.over(1);
        Check.refused("OWN", y, y.bad(1), 3);
        y.answer(0, 99);
        Check.fine("OWN, the first end", y, y.bad(1), 0);
        // behind the end of call 15 what it saw wasn't put yet; with all calls, late, it was
        y = Books.over(2);
        Check.fine("LATE, ahead of too many stands", y, y.bad(2), 15);
        y = Books.just(2);
        Check.fine("LATE", y, y.bad(2), 14);
        Check.fine("LATE has an order of all", y, y.can(2), 1);
    }
}
