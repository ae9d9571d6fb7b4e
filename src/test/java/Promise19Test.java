/** Promise 19, could(): how many answers a call could tell if nobody had told its own. */
public final class Promise19Test {
    public static void main(String[] args) {
        kindsOutOfBounds();
        callsOutOfBounds();
        noneToMany();
        whatItToldDoesNotMatter();
        othersAnswerAsTheyTold();
        openOnes();
        eachKindByItself();
        at6000And6001Stands();
        Check.end();
    }

    private static void kindsOutOfBounds() {
        OneTill x = Check.of(Books.SMALL);
        for (int kind : new int[] {-1, 3, 4, Integer.MIN_VALUE, Integer.MAX_VALUE}) {
            Check.refused("could(" + kind + ", 1)", x, x.could(kind, 1), 1);
        }
        for (int kind = 0; kind <= 2; kind++) {
            Check.fine("could(" + kind + ", 1)", x, x.could(kind, 1), 2);
        }
    }

    private static void callsOutOfBounds() {
        OneTill x = Check.of(Books.SMALL);
        for (int c : new int[] {-1, 5, 19, 20, Integer.MIN_VALUE, Integer.MAX_VALUE}) {
            Check.refused("could(0, " + c + ")", x, x.could(0, c), 1);
        }
        Check.fine("the first", x, x.could(0, 0), 1);
        Check.fine("the last", x, x.could(0, 4), 1);
        x = Check.of(Books.EMPTY);
        Check.refused("no calls", x, x.could(0, 0), 1);
        x = Check.of(Books.sees(20));
        Check.fine("the twentieth", x, x.could(0, 19), 1);
    }

    private static void noneToMany() {
        OneTill x = Check.of(Books.NEVER + ";call b d see from 1 to 2 told 0");
        Check.fine("another one can't be", x, x.could(0, 1), 0);
        Check.fine("it alone can't be", x, x.could(0, 0), 1);
        String text = "law late 0;till d is drawer;cashier a,b,c,e;call a d see from 1 to 99 told 0";
        for (int n = 0; n < 10; n++) {
            x = Check.of(text);
            Check.fine("0 to " + n, x, x.could(0, 0), n + 1);
            int next = n + 1;
            text += ";call " + "bce".charAt(n % 3) + " d put " + next + " from " + next + " to " + next + " told 0";
        }
    }

    private static void whatItToldDoesNotMatter() {
        OneTill x = Check.of(Books.SMALL);
        for (int v : new int[] {0, 4, 99}) {
            x.answer(1, v);
            Check.fine("told " + v, x, x.could(0, 1), 2);
        }
        Check.due("it tells it still", x.call(1, 6), 99);
    }

    private static void othersAnswerAsTheyTold() {
        String text = "law late 0;till s is set;cashier a,b;call a s put 1 from 1 to 5 told 1;call b s put 1 from 1 to 5 told 0";
        OneTill x = Check.of(text);
        Check.fine("b told it was there", x, x.could(0, 0), 1);
        Check.fine("a told it wasn't", x, x.could(0, 1), 1);
        x.opens(0);
        Check.fine("a's is open", x, x.could(0, 1), 2);
        x.answer(1, 1);
        Check.fine("a's, if b's found nothing, may be ahead of b's no more", x, x.could(0, 0), 1);
    }

    private static void openOnes() {
        OneTill x = Check.of(Books.SMALL);
        Check.fine("the open take", x, x.could(0, 3), 1);
        Check.fine("the open see", x, x.could(0, 4), 1);
        Check.fine("of OWN the take may find nothing", x, x.could(1, 3), 2);
        // an open one that comes in no order
        x = Check.of(Books.NEVER + ";call b d see from 1 open");
        Check.fine("no order", x, x.could(0, 1), 0);
        x = Check.of("law late 0;till d is drawer;cashier a,b;call a d see from 1 to 5 told 0;call b d put 3 from 1 open");
        Check.fine("the open put", x, x.could(0, 1), 1);
    }

    private static void eachKindByItself() {
        for (int begin = 5; begin <= 9; begin++) {
            OneTill x = Check.of(Books.apart(2, 5, begin));
            Check.fine("ONE, begin " + begin, x, x.could(0, 1), begin <= 5 ? 2 : 1);
            Check.fine("OWN, begin " + begin, x, x.could(1, 1), 2);
            Check.fine("LATE, begin " + begin, x, x.could(2, 1), begin <= 7 ? 2 : 1);
        }
    }

    /** With its own answer a call that can't be leaves one stand; freed it leads to all the others. */
    private static void at6000And6001Stands() {
        OneTill x = Books.over(0);
        Check.fine("answer", x, x.answer(0, 50), 0);
        Check.fine("one stand", x, x.stands(0), 1);
        Check.refused("6,001 if it isn't told", x, x.could(0, 0), 3);
        Check.fine("another one can't be", x, x.could(0, 1), 0);
        for (int kind = 0; kind <= 2; kind++) {
            OneTill y = Books.over(kind);
            Check.refused("6,001 stands, kind " + kind, y, y.could(kind, y.told(2) - 1), 3);
        }
        x = Books.just(0);
        Check.fine("6,000 stands, of an open one", x, x.could(0, 11) > 0 ? 11 : 0, 11);
        x = Books.just(2);
        x.answer(0, 50);
        Check.fine("one stand of LATE", x, x.stands(2), 1);
        Check.fine("6,000 if it isn't told", x, x.could(2, 0), 1);
    }
}
