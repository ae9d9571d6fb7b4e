/** Promise 5, where(): the FAULT's place, if the latest call that may be refused was by 4. */
public final class Promise05Test {
    public static void main(String[] args) {
        isNoneWithoutAFault();
        isThePlace();
        isTheFirstAndTheLastPlace();
        isNoneBehindAnyCallThatMayBeRefused();
        isNoneBehindRefusals();
        staysByCallsThatTellNoNumber();
        Check.end();
    }

    private static OneTill faulty() {
        OneTill x = Check.of(Books.SMALL);
        Check.refused("faulty", x, Check.book(x, "law late 111"), 4);
        Check.due("where", x.where(), 9);
        return x;
    }

    private static void isNoneWithoutAFault() {
        OneTill x = new OneTill();
        Check.due("at first", x.where(), -1);
        Check.refused("book(1)", x, x.book(1), 2);
        Check.due("by 2", x.where(), -1);
        Check.fine("book", x, Check.book(x, Books.SMALL), 5);
        Check.due("behind a book", x.where(), -1);
    }

    private static void isThePlace() {
        OneTill x = faulty();
        Check.due("again", x.where(), 9);
        Check.refused("another", x, Check.book(x, "law late 1;till till is set"), 4);
        Check.due("its place", x.where(), 16);
        Check.refused("by 2", x, x.book(1), 2);
        Check.due("not the one ahead's", x.where(), -1);
    }

    private static void isTheFirstAndTheLastPlace() {
        OneTill x = new OneTill();
        Check.refused("a byte", x, Check.book(x, "?"), 4);
        Check.due("the first place", x.where(), 0);
        StringBuilder text = new StringBuilder(Books.EMPTY);
        while (text.length() < 899) {
            text.append(' ');
        }
        Check.refused("a byte", x, Check.book(x, text + "?"), 4);
        Check.due("the last byte's place", x.where(), 899);
        Check.refused("a semicolon", x, Check.book(x, text + ";"), 4);
        Check.due("the end's place", x.where(), 900);
        Check.due("FORM", x.fault(), 1);
        Check.fine("a blank", x, Check.book(x, text + " "), 0);
        String lacking = text.toString().replace(";cashier a", "          ");
        Check.refused("no cashier", x, Check.book(x, lacking + " "), 4);
        Check.due("the end's place", x.where(), 900);
        Check.due("LACKS", x.fault(), 6);
    }

    /** Each call is answered, and the place is gone; the book that stayed answers. */
    private static void isNoneBehindAnyCallThatMayBeRefused() {
        for (int what = 0; what < 26; what++) {
            OneTill x = faulty();
            ask(x, what, true);
            Check.due("trouble behind call " + what, x.trouble(), 0);
            Check.due("where behind call " + what, x.where(), -1);
            Check.due("fault stays behind call " + what, x.fault(), what == 0 ? 0 : 4);
        }
    }

    private static void isNoneBehindRefusals() {
        for (int what = 0; what < 26; what++) {
            OneTill x = faulty();
            ask(x, what, false);
            Check.due("refused call " + what, x.trouble() != 0 && x.trouble() != 4, true);
            Check.due("where behind refused call " + what, x.where(), -1);
            Check.due("fault behind refused call " + what, x.fault(), 4);
        }
    }

    private static void staysByCallsThatTellNoNumber() {
        OneTill x = faulty();
        x.fault();
        Check.due("behind fault", x.where(), 9);
        x.told(0);
        x.told(-1);
        x.told(8);
        Check.due("behind told", x.where(), 9);
        x.trouble();
        Check.due("behind trouble", x.where(), 9);
        x.led(0);
        Check.ledThrows("two are open", x, 2);
        Check.due("behind led", x.where(), 9);
        x.feed(0, 0, 0, 0, 0);
        Check.due("behind feed", x.where(), 9);
        for (int i = 0; i < 45; i++) {
            x.feed(0, 0, 0, 0, 0);
        }
        Check.due("behind a feed without room", x.where(), 9);
    }

    private static void ask(OneTill x, int what, boolean well) {
        int k = well ? 0 : -1;
        switch (what) {
            case 0 -> {
                if (well) {
                    Check.book(x, Books.EMPTY);
                } else {
                    x.book(1);
                }
            }
            case 1 -> x.can(k);
            case 2 -> x.orders(k);
            case 3 -> x.size(k);
            case 4 -> x.order(k, 0);
            case 5 -> x.stands(k);
            case 6 -> x.ends(k);
            case 7 -> x.firsts(k);
            case 8 -> x.ahead(k, 0, 1);
            case 9 -> x.each(k);
            case 10 -> x.bad(k);
            case 11 -> x.core(k);
            case 12 -> mends(x, well);
            case 13 -> enough(x, well);
            case 14 -> x.could(k, 0);
            case 15 -> x.couldTell(k, 0, true);
            case 16 -> x.seed(k);
            case 17 -> x.make(k, 1);
            case 18 -> x.breaks(k, 0, 1);
            case 19 -> x.answer(k, 0);
            case 20 -> x.lose(k);
            case 21 -> opens(x, well);
            case 22 -> x.late(k);
            case 23 -> marks(x, well);
            case 24 -> backs(x, well);
            default -> x.call(k, 0);
        }
    }

    /** Something told that a drawer never was, to be mended (by nothing). */
    private static void mends(OneTill x, boolean well) {
        if (well) {
            x.answer(1, 9);
            Check.refused("faulty again", x, Check.book(x, "law late 111"), 4);
        }
        x.mends();
    }

    private static void enough(OneTill x, boolean well) {
        if (!well) {
            Check.fine("a book of too many stands", x, Check.book(x, Books.ONE_OVER), 14);
            Check.refused("faulty again", x, Check.book(x, "law late 111"), 4);
        }
        x.enough();
    }

    private static void opens(OneTill x, boolean well) {
        if (well) {
            x.lose(4);
            Check.refused("faulty again", x, Check.book(x, "law late 111"), 4);
        }
        x.opens(0);
    }

    private static void marks(OneTill x, boolean well) {
        for (int i = 0; !well && i < 3; i++) {
            x.mark();
        }
        Check.refused("faulty again", x, Check.book(x, "law late 111"), 4);
        x.mark();
    }

    private static void backs(OneTill x, boolean well) {
        x.mark();
        Check.refused("faulty again", x, Check.book(x, "law late 111"), 4);
        x.back(well ? 0 : 1);
    }
}
