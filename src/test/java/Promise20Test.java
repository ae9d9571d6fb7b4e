/** Promise 20, couldTell(): the least of the answers that a call could tell, or the greatest. */
public final class Promise20Test {
    public static void main(String[] args) {
        kindsOutOfBounds();
        callsOutOfBounds();
        thereIsNone();
        theOnlyOneIsBoth();
        leastAndGreatest();
        tenIsTheGreatestOfAQueue();
        at6000And6001Stands();
        Check.end();
    }

    private static void both(String what, OneTill x, int kind, int call, int least, int most) {
        Check.fine(what + " least", x, x.couldTell(kind, call, false), least);
        Check.fine(what + " most", x, x.couldTell(kind, call, true), most);
    }

    private static void neither(String what, OneTill x, int kind, int call, int trouble) {
        Check.refused(what + " least", x, x.couldTell(kind, call, false), trouble);
        Check.refused(what + " most", x, x.couldTell(kind, call, true), trouble);
    }

    private static void kindsOutOfBounds() {
        OneTill x = Check.of(Books.SMALL);
        for (int kind : new int[] {-1, 3, 4, Integer.MIN_VALUE, Integer.MAX_VALUE}) {
            neither("kind " + kind, x, kind, 1, 1);
        }
        for (int kind = 0; kind <= 2; kind++) {
            both("kind " + kind, x, kind, 1, 0, 4);
        }
    }

    private static void callsOutOfBounds() {
        OneTill x = Check.of(Books.SMALL);
        for (int c : new int[] {-1, 5, 19, 20, Integer.MIN_VALUE, Integer.MAX_VALUE}) {
            neither("call " + c, x, 0, c, 1);
        }
        both("the first", x, 0, 0, 0, 0);
        both("the last", x, 0, 4, 4, 4);
        neither("no calls", Check.of(Books.EMPTY), 0, 0, 1);
    }

    private static void thereIsNone() {
        OneTill x = Check.of(Books.NEVER + ";call b d see from 1 to 2 told 0");
        for (int kind = 0; kind <= 2; kind++) {
            neither("another one can't be", x, kind, 1, 6);
            both("it alone can't be", x, kind, 0, 0, 0);
        }
        x.opens(1);
        neither("an open one, but there is no order", x, 0, 1, 6);
        x.answer(0, 0);
        both("now", x, 0, 1, 0, 0);
    }

    private static void theOnlyOneIsBoth() {
        OneTill x = Check.of("law late 0;till p is purses;cashier a;call a p see from 1 to 2 told 77");
        both("nine", x, 0, 0, 9, 9);
        x = Check.of("law late 0;till p is drawer;cashier a;call a p see from 1 to 2 told 77");
        both("nothing", x, 0, 0, 0, 0);
    }

    private static void leastAndGreatest() {
        OneTill x = Check.of("law late 0;till d is drawer;cashier a,b,c;call a d see from 5 to 6 told 1;"
                + "call b d put 7 from 1 to 2 told 0;call b d put 3 from 3 to 5 told 0;call c d put 9 from 6 to 8 told 0");
        both("7 or 3 or 9", x, 0, 0, 3, 9);
        Check.fine("3 of them", x, x.could(0, 0), 3);
        both("of OWN 0 too", x, 1, 0, 0, 9);
        x.lose(3);
        both("7 or 3", x, 0, 0, 3, 7);
        x.lose(2);
        both("7", x, 0, 0, 7, 7);
        x.lose(1);
        both("0", x, 0, 0, 0, 0);
    }

    private static void tenIsTheGreatestOfAQueue() {
        OneTill x = Check.of("law late 0;till q is queue;cashier a,b;call a q take from 1 to 9 told 5;"
                + "call b q put 9 from 1 to 9 told 1");
        both("1 more than 9, or 0", x, 0, 0, 0, 10);
        StringBuilder text = new StringBuilder("law late 0;till c is counter;cashier a");
        for (int i = 0; i < 20; i++) {
            text.append(";call a c put from ").append(i).append(" to ").append(i).append(" told ").append(i + 1);
        }
        x = Check.of(text.toString());
        both("twenty", x, 0, 19, 20, 20);
        both("one", x, 0, 0, 1, 1);
    }

    private static void at6000And6001Stands() {
        // open ones, and a drawer's put: that they tell nothing frees no stand
        int[] free = {11, 0, 16};
        for (int kind = 0; kind <= 2; kind++) {
            OneTill x = Books.over(kind);
            neither("6,001 stands, kind " + kind, x, kind, 0, 3);
            x = Books.just(kind);
            Check.due("6,000 stands, least, kind " + kind, x.couldTell(kind, free[kind], false) >= 0, true);
            Check.due("trouble", x.trouble(), 0);
            Check.due("6,000 stands, most, kind " + kind, x.couldTell(kind, free[kind], true) >= 0, true);
            Check.due("trouble", x.trouble(), 0);
        }
        OneTill x = Books.over(0);
        x.answer(0, 50);
        neither("6,001 if it isn't told", x, 0, 0, 3);
        neither("another one can't be", x, 0, 1, 6);
    }
}
