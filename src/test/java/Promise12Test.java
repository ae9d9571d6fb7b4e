/** Promise 12, firsts(): calls that may come first, as bits. */
public final class Promise12Test {
    public static void main(String[] args) {
        kindsOutOfBounds();
        noneIsZero();
        oneToFour();
        theTwentiethCall();
        openOnesToo();
        noneThatLeadsNowhere();
        byTimeAndByMinutes();
        at6000And6001Stands();
        Check.end();
    }

    private static void kindsOutOfBounds() {
        OneTill x = Check.of(Books.SMALL);
        for (int kind : new int[] {-1, 3, 4, Integer.MIN_VALUE, Integer.MAX_VALUE}) {
            Check.refused("firsts(" + kind + ")", x, x.firsts(kind), 1);
        }
        Check.fine("firsts(0)", x, x.firsts(0), 1);
    }

    private static void noneIsZero() {
        for (int kind = 0; kind <= 2; kind++) {
            OneTill x = Check.of(Books.EMPTY);
            Check.fine("no calls, kind " + kind, x, x.firsts(kind), 0);
            x = Check.of(Books.NEVER);
            Check.fine("no order, kind " + kind, x, x.firsts(kind), 0);
        }
    }

    private static void oneToFour() {
        String text = "law late 0;till d is drawer;cashier a,b,c,e";
        for (int i = 0; i < 4; i++) {
            text += ";call " + "abce".charAt(i) + " d see from 1 to 5 told 0";
            OneTill x = Check.of(text);
            Check.fine(i + 1 + " calls", x, x.firsts(0), (2 << i) - 1);
        }
        OneTill x = Check.of(text + ";call a d see from 6 to 7 told 0");
        Check.fine("each cashier's first one", x, x.firsts(1), 15);
    }

    private static void theTwentiethCall() {
        String text = Books.sees(19).replace("cashier a", "cashier a,b") + ";call b c see from 0 to 99 told 0";
        OneTill x = Check.of(text);
        Check.fine("bits 0 and 19", x, x.firsts(0), 1 | 1 << 19);
        x.answer(0, 1);
        Check.fine("no order", x, x.firsts(0), 0);
    }

    private static void openOnesToo() {
        OneTill x = Check.of("law late 0;till d is drawer;cashier a,b;call b d see from 1 to 5 told 0;"
                + "call a d put 3 from 5 open");
        Check.fine("behind b's alone", x, x.firsts(0), 1);
        x.answer(0, 3);
        Check.fine("ahead of b's", x, x.firsts(0), 2);
        x.opens(1);
        Check.fine("either", x, x.firsts(0), 3);
    }

    private static void noneThatLeadsNowhere() {
        OneTill x = Check.of("law late 0;till d is drawer;cashier a,b;call a d put 3 from 1 to 5 told 0;"
                + "call b d see from 1 to 5 told 0");
        Check.fine("put alone would lead nowhere", x, x.firsts(0), 2);
    }

    private static void byTimeAndByMinutes() {
        OneTill x = Check.of(Books.apart(2, 5, 8).replace("put 3", "see"));
        Check.fine("ONE", x, x.firsts(0), 1);
        Check.fine("OWN", x, x.firsts(1), 3);
        Check.fine("LATE, three apart", x, x.firsts(2), 1);
        x.late(3);
        Check.fine("LATE by three", x, x.firsts(2), 3);
    }

    private static void at6000And6001Stands() {
        for (int kind = 0; kind <= 2; kind++) {
            OneTill x = Books.just(kind);
            Check.due("6,000 stands, kind " + kind, x.firsts(kind) > 0, true);
            Check.due("trouble", x.trouble(), 0);
            OneTill y = Books.over(kind);
            Check.refused("6,001 stands, kind " + kind, y, y.firsts(kind), 3);
        }
    }
}
