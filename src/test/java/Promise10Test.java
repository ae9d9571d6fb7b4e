/** Promise 10, stands(): how many STANDS there are. */
public final class Promise10Test {
    public static void main(String[] args) {
        kindsOutOfBounds();
        theBeginningIsOne();
        oneMoreByEachCall();
        wrongAnswersLeadNowhere();
        openOnesLeadOn();
        deadEndsCount();
        unlikeTillsAreUnlikeStands();
        at6000And6001();
        Check.end();
    }

    private static void kindsOutOfBounds() {
        OneTill x = Check.of(Books.SMALL);
        for (int kind : new int[] {-1, 3, 4, Integer.MIN_VALUE, Integer.MAX_VALUE}) {
            Check.refused("stands(" + kind + ")", x, x.stands(kind), 1);
        }
        Check.fine("stands(0)", x, x.stands(0), 8);
    }

    private static void theBeginningIsOne() {
        OneTill x = Check.of(Books.EMPTY);
        for (int kind = 0; kind <= 2; kind++) {
            Check.fine("no calls, kind " + kind, x, x.stands(kind), 1);
        }
    }

    private static void oneMoreByEachCall() {
        for (int n = 0; n <= 20; n++) {
            OneTill x = Check.of(Books.sees(n));
            for (int kind = 0; kind <= 2; kind++) {
                Check.fine(n + " calls, kind " + kind, x, x.stands(kind), n + 1);
            }
        }
    }

    private static void wrongAnswersLeadNowhere() {
        OneTill x = Check.of(Books.NEVER);
        Check.fine("the beginning alone", x, x.stands(0), 1);
        x = Check.of(Books.sees(20));
        x.answer(7, 1);
        Check.fine("up to the wrong one", x, x.stands(0), 8);
    }

    private static void openOnesLeadOn() {
        OneTill x = Check.of(Books.EMPTY + ";call a d put 3 from 1 open");
        Check.fine("it may be done or not", x, x.stands(0), 2);
        Check.yes("lose", x, x.lose(0));
        Check.fine("gone", x, x.stands(0), 1);
    }

    private static void deadEndsCount() {
        OneTill x = Check.of("law late 0;till d is drawer;cashier a,b;call a d put 3 from 1 to 5 told 0;"
                + "call b d see from 1 to 5 told 0");
        // see then put; put alone leads nowhere
        Check.fine("stands", x, x.stands(0), 4);
        Check.fine("orders", x, x.orders(0), 1);
    }

    private static void unlikeTillsAreUnlikeStands() {
        String text = "law late 0;till d is drawer;cashier a,b;call a d put 3 from 1 to 5 told 0;"
                + "call b d put 4 from 1 to 5 told 0";
        OneTill x = Check.of(text);
        Check.fine("both done, 3 or 4 behind it", x, x.stands(0), 5);
        x = Check.of(text.replace("put 4", "put 3"));
        Check.fine("both done, 3 behind it", x, x.stands(0), 4);
    }

    private static void at6000And6001() {
        for (int kind = 0; kind <= 2; kind++) {
            OneTill x = Books.just(kind);
            Check.fine("kind " + kind, x, x.stands(kind), 6000);
            OneTill y = Books.over(kind);
            Check.refused("kind " + kind, y, y.stands(kind), 3);
        }
        // kinds are asked one by one
        OneTill y = Books.over(2);
        Check.due("OWN binds less", y.stands(1), -1);
        Check.due("ONE binds more", y.stands(0) > 0, true);
    }
}
