/** Promise 14, each(): whether a till alone has an ORDER ONE. */
public final class Promise14Test {
    public static void main(String[] args) {
        tillsOutOfBounds();
        ofATillWithoutCalls();
        eachByItself();
        isONEAlone();
        at6000And6001Stands();
        Check.end();
    }

    private static void tillsOutOfBounds() {
        String[] tills = {"till d is drawer", ";till e is set", ";till f is queue"};
        String text = "law late 0;cashier a;";
        for (int n = 1; n <= 3; n++) {
            text += tills[n - 1];
            OneTill x = Check.of(text);
            for (int t = 0; t < n; t++) {
                Check.fine("each(" + t + ") of " + n, x, x.each(t), 1);
            }
            for (int t : new int[] {-1, n, 3, 4, Integer.MIN_VALUE, Integer.MAX_VALUE}) {
                Check.refused("each(" + t + ") of " + n, x, x.each(t), 1);
            }
        }
    }

    private static void ofATillWithoutCalls() {
        OneTill x = Check.of(Books.NEVER.replace(";cashier", ";till e is drawer;cashier"));
        Check.fine("the one that can't be", x, x.each(0), 0);
        Check.fine("the one without calls", x, x.each(1), 1);
    }

    private static void eachByItself() {
        OneTill x = Check.of("law late 0;till q is queue;till r is queue;cashier a,b,c;"
                + "call a q put 1 from 1 to 9 told 1;call b q put 2 from 1 to 9 told 1;"
                + "call c q take from 10 to 11 told 3");
        Check.fine("2 ahead of 1", x, x.each(0), 1);
        Check.fine("none", x, x.each(1), 1);
        x = Check.of("law late 0;till q is drawer;till r is drawer;cashier a,b;"
                + "call a q put 1 from 1 to 9 told 0;call b q see from 1 to 9 told 2;"
                + "call b r see from 10 to 12 told 0");
        Check.fine("never 2", x, x.each(0), 0);
        Check.fine("0 at first", x, x.each(1), 1);
        x.answer(1, 1);
        Check.fine("1 was put", x, x.each(0), 1);
        x.answer(2, 1);
        Check.fine("on the other one", x, x.each(1), 0);
    }

    private static void isONEAlone() {
        int[] due = {1, 1, 0, 0};
        for (int begin = 4; begin <= 7; begin++) {
            OneTill x = Check.of(Books.apart(99, 5, begin));
            Check.fine("begin " + begin + ", whatever the law's minutes", x, x.each(0), due[begin - 4]);
        }
    }

    private static void at6000And6001Stands() {
        OneTill x = Books.just(0);
        Check.fine("6,000 stands", x, x.each(0), 1);
        OneTill y = Books.over(0);
        Check.refused("6,001 stands", y, y.each(0), 3);
        Check.refused("no such till", y, y.each(1), 1);
        y = Check.of(Books.ONE_OVER.replace("till p is queue", "till z is set;till p is queue"));
        Check.fine("the other till", y, y.each(0), 1);
        Check.refused("6,001 stands of this one", y, y.each(1), 3);
    }
}
