/** Promise 33, trouble(): of the latest call that may be refused. */
public final class Promise33Test {
    public static void main(String[] args) {
        isNoneAtFirst();
        isEachOfSeven();
        isGoneBehindAnAnswer();
        zeroIsAnAnswer();
        staysByCallsThatTellNoNumber();
        Check.end();
    }

    private static void isNoneAtFirst() {
        Check.due("trouble", new OneTill().trouble(), 0);
    }

    private static void isEachOfSeven() {
        OneTill x = Check.of(Books.SMALL);
        Check.due("0 a book", x.trouble(), 0);
        x.can(4);
        Check.due("1 no such kind", x.trouble(), 1);
        x.seed(-1);
        Check.due("2 a number", x.trouble(), 2);
        x.mark();
        x.mark();
        x.mark();
        x.mark();
        Check.due("3 no room", x.trouble(), 3);
        Check.book(x, "?");
        Check.due("4 a FAULT", x.trouble(), 4);
        x.opens(0);
        Check.due("5 it is open", x.trouble(), 5);
        x.opens(2);
        Check.due("6 there is none", x.trouble(), 6);
        x.can(0);
        Check.due("0 an answer", x.trouble(), 0);
        x = Books.over(0);
        x.can(0);
        Check.due("3 too many stands", x.trouble(), 3);
        x = Check.of(Books.NEVER);
        x.size(0);
        Check.due("6 there is no order", x.trouble(), 6);
        x.couldTell(0, 0, true);
        Check.due("0 it could tell one", x.trouble(), 0);
        x.mends();
        Check.due("0 nothing mends it", x.trouble(), 0);
        x.answer(0, 0);
        x.mends();
        Check.due("5 there is an order", x.trouble(), 5);
    }

    private static void isGoneBehindAnAnswer() {
        for (int what = 0; what < 26; what++) {
            OneTill x = Check.of(Books.SMALL);
            Check.refused("refused", x, x.each(9), 1);
            answered(x, what);
            Check.due("behind call " + what, x.trouble(), 0);
        }
    }

    private static void answered(OneTill x, int what) {
        switch (what) {
            case 0 -> Check.book(x, Books.EMPTY);
            case 1 -> x.can(0);
            case 2 -> x.orders(3);
            case 3 -> x.size(0);
            case 4 -> x.order(0, 2);
            case 5 -> x.stands(0);
            case 6 -> x.ends(0);
            case 7 -> x.firsts(0);
            case 8 -> x.ahead(0, 0, 4);
            case 9 -> x.each(1);
            case 10 -> x.bad(0);
            case 11 -> x.core(0);
            case 12 -> {
                x.answer(1, 9);
                x.can(9);
                x.mends();
            }
            case 13 -> x.enough();
            case 14 -> x.could(0, 4);
            case 15 -> x.couldTell(0, 4, false);
            case 16 -> x.seed(65536);
            case 17 -> x.make(2, 20);
            case 18 -> x.breaks(3, 0, 8);
            case 19 -> x.answer(2, 99);
            case 20 -> x.lose(4);
            case 21 -> {
                x.lose(4);
                x.can(9);
                x.opens(0);
            }
            case 22 -> x.late(99);
            case 23 -> x.mark();
            case 24 -> {
                x.mark();
                x.can(9);
                x.back(0);
            }
            default -> x.call(4, 6);
        }
    }

    /** Answers below 0 that are no refusals, and those that are 0. */
    private static void zeroIsAnAnswer() {
        OneTill x = Check.of(Books.NEVER);
        Check.fine("can", x, x.can(0), 0);
        Check.fine("orders", x, x.orders(0), 0);
        Check.fine("core", x, x.core(0), 1);
        Check.fine("enough", x, x.enough(), -2);
        Check.fine("mends", x, x.mends(), 0);
        x = Check.of(Books.SMALL);
        Check.fine("bad", x, x.bad(0), -2);
        Check.fine("core", x, x.core(0), -2);
        Check.fine("call", x, x.call(4, 6), -2);
        Check.fine("breaks", x, x.breaks(0, 0, 1), -2);
        StringBuilder text = new StringBuilder("law late 0;till s is set;cashier a,b,c,d");
        for (int i = 0; i < 4; i++) {
            text.append(";call ").append("abcd".charAt(i)).append(" s put 1 from 1 to 9 told 0");
        }
        x = Check.of(text.toString());
        Check.fine("core", x, x.core(0), -3);
    }

    private static void staysByCallsThatTellNoNumber() {
        OneTill x = Check.of(Books.SMALL);
        int[] troubles = {0, 1, 2, 4, 5, 6};
        for (int t : troubles) {
            switch (t) {
                case 0 -> x.can(0);
                case 1 -> x.can(9);
                case 2 -> x.late(-1);
                case 4 -> Check.book(x, "?");
                case 5 -> x.answer(3, 1);
                default -> x.opens(2);
            }
            Check.due("trouble", x.trouble(), t);
            x.feed(0, 0, 0, 0, 0);
            x.fault();
            x.where();
            x.led(1);
            Check.ledThrows("two are open", x, 2);
            x.told(8);
            Check.due("trouble stays", x.trouble(), t);
            Check.due("and again", x.trouble(), t);
        }
    }
}
