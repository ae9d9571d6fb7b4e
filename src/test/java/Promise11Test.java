/** Promise 11, ends(): in how many ways tills may be unlike behind all ORDERS of a KIND. */
public final class Promise11Test {
    public static void main(String[] args) {
        kindsOutOfBounds();
        ofNoCallsIsOne();
        ofNoOrderIsNone();
        likeTillsCountOnce();
        openOnesMakeThemUnlike();
        standsThatAreNoEndsDontCount();
        aQueuesOrderIsLookedAt();
        at6000And6001Stands();
        Check.end();
    }

    private static void kindsOutOfBounds() {
        OneTill x = Check.of(Books.SMALL);
        for (int kind : new int[] {-1, 3, 4, Integer.MIN_VALUE, Integer.MAX_VALUE}) {
            Check.refused("ends(" + kind + ")", x, x.ends(kind), 1);
        }
        Check.fine("ends(0)", x, x.ends(0), 2);
    }

    private static void ofNoCallsIsOne() {
        OneTill x = Check.of(Books.EMPTY);
        for (int kind = 0; kind <= 2; kind++) {
            Check.fine("as they are at first, kind " + kind, x, x.ends(kind), 1);
        }
    }

    private static void ofNoOrderIsNone() {
        OneTill x = Check.of(Books.NEVER);
        for (int kind = 0; kind <= 2; kind++) {
            Check.fine("none, kind " + kind, x, x.ends(kind), 0);
        }
    }

    private static void likeTillsCountOnce() {
        String text = "law late 0;till d is drawer;cashier a,b,c;call a d put 3 from 1 to 5 told 0;"
                + "call b d put 4 from 1 to 5 told 0;call c d put 4 from 1 to 5 told 0";
        OneTill x = Check.of(text);
        Check.fine("3 or 4", x, x.ends(0), 2);
        Check.fine("six orders", x, x.orders(0), 6);
        Check.fine("4 alone", Check.of(text.replace('3', '4')), Check.of(text.replace('3', '4')).ends(0), 1);
        x = Check.of(text.replace("told 0;call c d put 4", "told 0;call c d put 9"));
        Check.fine("3, 4 or 9", x, x.ends(0), 3);
    }

    private static void openOnesMakeThemUnlike() {
        OneTill x = Check.of(Books.EMPTY + ";call a d put 0 from 1 open");
        Check.fine("0 as it was", x, x.ends(0), 1);
        x = Check.of(Books.EMPTY + ";call a d put 1 from 1 open");
        Check.fine("0 or 1", x, x.ends(0), 2);
    }

    private static void standsThatAreNoEndsDontCount() {
        OneTill x = Check.of("law late 0;till c is counter;cashier a;call a c put from 1 to 2 told 1;"
                + "call a c put from 3 to 4 told 2;call a c take from 5 to 6 told 1");
        Check.fine("four stands", x, x.stands(0), 4);
        Check.fine("one end", x, x.ends(0), 1);
    }

    private static void aQueuesOrderIsLookedAt() {
        OneTill x = Check.of("law late 0;till q is queue;cashier a,b;call a q put 1 from 1 to 5 told 1;"
                + "call b q put 2 from 1 to 5 told 1");
        Check.fine("1, 2 or 2, 1", x, x.ends(0), 2);
        x = Check.of("law late 0;till s is set;cashier a,b;call a s put 1 from 1 to 5 told 1;"
                + "call b s put 2 from 1 to 5 told 1");
        Check.fine("1 and 2", x, x.ends(0), 1);
        x = Check.of("law late 0;till q is queue;till r is queue;cashier a,b;call a q put 0 from 1 open;"
                + "call b r put 0 from 1 open");
        Check.fine("nothing is unlike a 0, and a till unlike another", x, x.ends(0), 4);
    }

    private static void at6000And6001Stands() {
        for (int kind = 0; kind <= 2; kind++) {
            OneTill x = Books.just(kind);
            Check.due("6,000 stands, kind " + kind, x.ends(kind) > 0, true);
            Check.due("trouble", x.trouble(), 0);
            OneTill y = Books.over(kind);
            Check.refused("6,001 stands, kind " + kind, y, y.ends(kind), 3);
        }
    }
}
