/** Promise 7, orders(): how many ORDERS there are. */
public final class Promise07Test {
    public static void main(String[] args) {
        kindsOutOfBounds();
        ofNoCallsIsOne();
        noneIsZero();
        openOnesMayComeOrNot();
        moreThanAnIntTells();
        eachIsTheTillsTimesOneAnother();
        eachWithATillThatHasNone();
        at6000And6001Stands();
        Check.end();
    }

    private static void kindsOutOfBounds() {
        OneTill x = Check.of(Books.SMALL);
        for (int kind : new int[] {-1, 4, Integer.MIN_VALUE, Integer.MAX_VALUE}) {
            Check.refused("orders(" + kind + ")", x, x.orders(kind), 1);
        }
        Check.fine("orders(0)", x, x.orders(0), 10);
        // the see of the drawer may or may not come behind the put: d has 2 orders, q has 2
        Check.fine("orders(3)", x, x.orders(3), 4);
    }

    private static void ofNoCallsIsOne() {
        OneTill x = Check.of(Books.EMPTY);
        for (int kind = 0; kind <= 3; kind++) {
            Check.fine("the empty order of " + kind, x, x.orders(kind), 1);
        }
    }

    private static void noneIsZero() {
        OneTill x = Check.of(Books.NEVER);
        for (int kind = 0; kind <= 3; kind++) {
            Check.fine("none of " + kind, x, x.orders(kind), 0);
        }
    }

    private static void openOnesMayComeOrNot() {
        String text = "law late 0;till d is drawer;cashier a,b,c,e";
        String[] more = {";call a d see from 1 open", ";call b d see from 1 open", ";call c d see from 1 open",
            ";call e d see from 1 open"};
        long[] due = {2, 5, 16, 65};
        for (int i = 0; i < 4; i++) {
            text += more[i];
            OneTill x = Check.of(text);
            for (int kind = 0; kind <= 3; kind++) {
                Check.fine(text + " orders " + kind, x, x.orders(kind), due[i]);
            }
        }
    }

    /** Twenty calls of four cashiers in any order but their own: 20! by 5! four times. */
    private static void moreThanAnIntTells() {
        StringBuilder text = new StringBuilder("law late 0;till d is drawer;cashier a,b,c,e");
        for (int i = 0; i < 20; i++) {
            text.append(";call ").append("abce".charAt(i % 4)).append(" d see from ").append(i / 4);
            text.append(" to ").append(i / 4).append(" told 0");
        }
        OneTill x = Check.of(text.toString());
        Check.fine("orders", x, x.orders(1), 11732745024L);
        Check.fine("stands", x, x.stands(1), 1296);
        Check.fine("orders of LATE by 0", x, x.orders(2), 24L * 24 * 24 * 24 * 24);
        x.late(3);
        Check.due("by 3 minutes more of them", x.orders(2) > 7962624L && x.orders(2) < 11732745024L, true);
        x.late(4);
        Check.fine("by 4 minutes all of them", x, x.orders(2), 11732745024L);
    }

    private static void eachIsTheTillsTimesOneAnother() {
        StringBuilder text = new StringBuilder("law late 0;till p is drawer;till q is set;till r is purses;cashier a,b,c,e");
        String cashiers = "abce";
        for (int t = 0; t < 3; t++) {
            int calls = 4 - t;
            for (int i = 0; i < calls; i++) {
                text.append(";call ").append(cashiers.charAt(i)).append(' ').append("pqr".charAt(t));
                text.append(t == 1 ? " see 0" : " see").append(" from ").append(t * 10).append(" to ").append(t * 10 + 5);
                text.append(" told ").append(t == 2 ? 9 : 0);
            }
        }
        OneTill x = Check.of(text.toString());
        Check.fine("24 times 6 times 2", x, x.orders(3), 288);
        Check.fine("the same of ONE, as they come one till behind the other", x, x.orders(0), 288);
        x.lose(8);
        Check.fine("24 times 6 times 1", x, x.orders(3), 144);
        x.lose(7);
        Check.fine("a till without calls has one", x, x.orders(3), 144);
    }

    private static void eachWithATillThatHasNone() {
        OneTill x = Check.of("law late 0;till p is drawer;till q is set;cashier a,b;"
                + "call a p see from 1 to 2 told 0;call b p see from 1 to 2 told 0;call a q see 3 from 3 to 4 told 1");
        Check.fine("2 times 0", x, x.orders(3), 0);
        x.answer(2, 0);
        Check.fine("2 times 1", x, x.orders(3), 2);
        x.answer(0, 1);
        Check.fine("0 times 1", x, x.orders(3), 0);
    }

    private static void at6000And6001Stands() {
        for (int kind = 0; kind <= 3; kind++) {
            int of = kind % 3;
            OneTill x = Books.just(of);
            Check.due("6,000 stands, kind " + kind, x.orders(kind) > 0, true);
            Check.due("trouble", x.trouble(), 0);
            OneTill y = Books.over(of);
            Check.refused("6,001 stands, kind " + kind, y, y.orders(kind), 3);
        }
    }
}
