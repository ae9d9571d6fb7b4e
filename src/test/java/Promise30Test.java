/** Promise 30, call(): what a call is. */
public final class Promise30Test {
    public static void main(String[] args) {
        callsOutOfBounds();
        whatOutOfBounds();
        eachOfSeven();
        leastAndGreatest();
        openOnes();
        Check.end();
    }

    private static void callsOutOfBounds() {
        OneTill x = new OneTill();
        Check.refused("no book", x, x.call(0, 0), 1);
        x = Check.of(Books.EMPTY);
        Check.refused("no calls", x, x.call(0, 0), 1);
        x = Check.of(Books.SMALL);
        for (int c : new int[] {-1, 5, 19, 20, Integer.MIN_VALUE, Integer.MAX_VALUE}) {
            Check.refused("call(" + c + ", 0)", x, x.call(c, 0), 1);
        }
        x = Check.of(Books.sees(20));
        Check.fine("the twentieth", x, x.call(19, 4), 19);
        Check.refused("the next", x, x.call(20, 4), 1);
    }

    private static void whatOutOfBounds() {
        OneTill x = Check.of(Books.SMALL);
        for (int w : new int[] {-1, 7, 8, Integer.MIN_VALUE, Integer.MAX_VALUE}) {
            Check.refused("call(0, " + w + ")", x, x.call(0, w), 1);
        }
        Check.fine("call(0, 0)", x, x.call(0, 0), 0);
        Check.fine("call(0, 6)", x, x.call(0, 6), 0);
    }

    private static void eachOfSeven() {
        OneTill x = Check.of(Books.SMALL);
        for (int c = 0; c < 5; c++) {
            Check.seen("", x, c, Books.SMALL_CALLS[c]);
        }
        String tills = "law late 0;till s is set;till p is purses;till c is counter;cashier a,b,e,f;";
        x = Check.of(tills + "call f s put 1 from 2 to 3 told 4;call e s take 5 from 6 to 7 told 8;"
                + "call b s see 9 from 10 to 11 told 12;call f p put 3 from 14 to 15 told 16;"
                + "call e p take 7 from 18 to 19 told 20;call b p see from 22 to 23 told 24;"
                + "call f c put from 26 to 27 told 28;call e c take from 30 to 31 told 32;"
                + "call b c see from 34 to 35 told 36");
        int[][] due = {{3, 0, 0, 1, 2, 3, 4}, {2, 0, 1, 5, 6, 7, 8}, {1, 0, 2, 9, 10, 11, 12}, {3, 1, 0, 3, 14, 15, 16},
            {2, 1, 1, 7, 18, 19, 20}, {1, 1, 2, 0, 22, 23, 24}, {3, 2, 0, 0, 26, 27, 28}, {2, 2, 1, 0, 30, 31, 32},
            {1, 2, 2, 0, 34, 35, 36}};
        for (int c = 0; c < due.length; c++) {
            Check.seen("", x, c, due[c]);
        }
    }

    private static void leastAndGreatest() {
        OneTill x = Check.of(Books.EMPTY + ";call a d put 0 from 0 to 0 told 0;call a d put 9 from 999 to 999 told 99");
        Check.seen("the least", x, 0, 0, 0, 0, 0, 0, 0, 0);
        Check.seen("the greatest", x, 1, 0, 0, 0, 9, 999, 999, 99);
    }

    private static void openOnes() {
        OneTill x = Check.of(Books.EMPTY + ";call a d put 9 from 999 open");
        Check.seen("open", x, 0, 0, 0, 0, 9, 999, -2, -2);
    }
}
