/** Promise 17, mends(): calls by each of which alone, if its end came behind all, there is an ORDER ONE. */
public final class Promise17Test {
    public static void main(String[] args) {
        thereIsAnOrder();
        nothingMends();
        oneMends();
        moreThanOneMends();
        theTwentiethMends();
        itsOwnCallsStayInOrder();
        openOnesDont();
        isOfONE();
        tooManyStands();
        Check.end();
    }

    private static void thereIsAnOrder() {
        OneTill x = new OneTill();
        Check.refused("no book", x, x.mends(), 1);
        x = Check.of(Books.EMPTY);
        Check.refused("no calls", x, x.mends(), 5);
        x = Check.of(Books.SMALL);
        Check.refused("an order", x, x.mends(), 5);
        x.answer(1, 5);
        Check.fine("none now", x, x.mends(), 0);
    }

    private static void nothingMends() {
        OneTill x = Check.of(Books.NEVER);
        Check.fine("one call", x, x.mends(), 0);
        x = Check.of("law late 0;till d is drawer;cashier a,b,c;call a d put 1 from 1 to 2 told 0;"
                + "call b d put 2 from 1 to 2 told 0;call c d see from 3 to 4 told 0");
        Check.fine("it would take two ends", x, x.mends(), 0);
        x.lose(1);
        Check.fine("one end does", x, x.mends(), 1);
    }

    private static void oneMends() {
        for (int begin = 5; begin <= 7; begin++) {
            OneTill x = Check.of(Books.apart(0, 5, begin));
            if (begin <= 5) {
                Check.refused("begin " + begin, x, x.mends(), 5);
            } else {
                Check.fine("begin " + begin, x, x.mends(), 1);
            }
        }
    }

    private static void moreThanOneMends() {
        OneTill x = Check.of("law late 0;till q is queue;cashier a,b,c;call a q put 1 from 1 to 2 told 1;"
                + "call b q take from 3 to 4 told 0;call c q take from 5 to 6 told 2");
        Check.fine("a's end, or b's behind c's", x, x.mends(), 3);
        x = Check.of("law late 0;till q is queue;cashier a,b,c;call a q put 1 from 1 to 2 told 1;"
                + "call b q put 2 from 3 to 4 told 1;call c q take from 5 to 6 told 3;call a q take from 7 to 8 told 2");
        Check.fine("a's first end, or c's behind a's last one", x, x.mends(), 5);
        x = Check.of("law late 0;till d is drawer;cashier a,b,c;call a d see from 1 to 2 told 5;"
                + "call b d see from 1 to 2 told 5;call c d put 5 from 3 to 4 told 0");
        Check.fine("two of them see it too early", x, x.mends(), 0);
        x.answer(1, 0);
        Check.fine("one of them does", x, x.mends(), 1);
        x = Check.of("law late 0;till c is counter;cashier a,b,e;call a c put from 1 to 2 told 2;"
                + "call b c put from 1 to 2 told 3;call e c put from 3 to 4 told 1");
        Check.fine("both came too early", x, x.mends(), 0);
        x.answer(1, 1);
        x.answer(2, 2);
        x.answer(0, 3);
        Check.fine("a's end", x, x.mends(), 1);
        x = Check.of("law late 0;till p is purses;cashier a,b,c;call a p put 9 from 1 to 2 told 1;"
                + "call b p put 9 from 3 to 4 told 1;call c p take 9 from 5 to 6 told 1");
        Check.fine("a's or b's, either may be the second of them", x, x.mends(), 3);
    }

    private static void theTwentiethMends() {
        StringBuilder text = new StringBuilder("law late 0;till d is drawer;cashier a,b");
        for (int i = 0; i < 18; i++) {
            text.append(";call a d see from ").append(i).append(" to ").append(i).append(" told 0");
        }
        text.append(";call b d see from 100 to 110 told 0;call a d put 4 from 20 to 30 told 0");
        OneTill x = Check.of(text.toString());
        Check.fine("call 19, told last", x, x.mends(), 1 << 19);
    }

    private static void itsOwnCallsStayInOrder() {
        OneTill x = Check.of("law late 0;till d is drawer;cashier a;call a d put 3 from 1 to 2 told 0;"
                + "call a d see from 3 to 4 told 0");
        Check.fine("a's own calls", x, x.mends(), 0);
        x = Check.of("law late 0;till d is drawer;cashier a,b;call a d put 3 from 1 to 2 told 0;"
                + "call b d see from 3 to 4 told 0");
        Check.fine("another one's", x, x.mends(), 1);
    }

    private static void openOnesDont() {
        OneTill x = Check.of("law late 0;till d is drawer;cashier a,b,c;call a d put 3 from 1 to 2 told 0;"
                + "call c d put 4 from 1 open;call b d see from 3 to 4 told 0");
        Check.fine("the one that ended", x, x.mends(), 1);
        x.opens(0);
        Check.refused("both open: there is an order", x, x.mends(), 5);
    }

    private static void isOfONE() {
        OneTill x = Check.of(Books.apart(99, 5, 9));
        Check.fine("there is an order LATE", x, x.can(2), 1);
        Check.fine("and an order OWN", x, x.can(1), 1);
        Check.fine("not of ONE", x, x.mends(), 1);
    }

    private static void tooManyStands() {
        OneTill x = Books.over(0);
        Check.refused("6,001 of ONE", x, x.mends(), 3);
        x = Books.just(0);
        Check.refused("6,000 of ONE, and an order", x, x.mends(), 5);
        x = Check.of(Books.MENDS_JUST);
        Check.fine("no order", x, x.can(0), 0);
        Check.fine("6,000 at most with any end behind all", x, x.mends(), 0);
        x = Check.of(Books.MENDS_OVER);
        Check.fine("no order", x, x.can(0), 0);
        Check.refused("6,001 with some end behind all", x, x.mends(), 3);
    }
}
