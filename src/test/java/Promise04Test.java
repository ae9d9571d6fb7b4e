/** Promise 4, fault(): the FAULT of the latest book() not refused by 2. */
public final class Promise04Test {
    private static final String[] FAULTY = {"law late", "cashier a;call a t put", "till t is set;cashier t",
        "law late 100", "cashier a,b,c,d,e", "law late 1;till t is set"};

    public static void main(String[] args) {
        isNoneAtFirst();
        isEachOfSix();
        isNoneBehindABook();
        staysByTwo();
        staysByOtherCalls();
        Check.end();
    }

    private static void isNoneAtFirst() {
        OneTill x = new OneTill();
        Check.due("fault", x.fault(), 0);
        x.feed(1, 1, 1, 1, 1);
        Check.due("fault of what is fed alone", x.fault(), 0);
        Check.refused("book(21)", x, x.book(21), 2);
        Check.due("a refusal by 2 is no FAULT", x.fault(), 0);
    }

    private static void isEachOfSix() {
        OneTill x = new OneTill();
        for (int f = 0; f < FAULTY.length; f++) {
            Check.refused(FAULTY[f], x, Check.book(x, FAULTY[f]), 4);
            Check.due(FAULTY[f] + " fault", x.fault(), f + 1);
            Check.due(FAULTY[f] + " fault again", x.fault(), f + 1);
        }
    }

    private static void isNoneBehindABook() {
        OneTill x = new OneTill();
        for (int f = 0; f < FAULTY.length; f++) {
            Check.refused(FAULTY[f], x, Check.book(x, FAULTY[f]), 4);
            Check.fine("book", x, Check.book(x, Books.SMALL), 5);
            Check.due("no fault", x.fault(), 0);
        }
    }

    private static void staysByTwo() {
        OneTill x = new OneTill();
        for (int f = 0; f < FAULTY.length; f++) {
            Check.refused(FAULTY[f], x, Check.book(x, FAULTY[f]), 4);
            Check.refused("book(1)", x, x.book(1), 2);
            Check.due("the one ahead's fault", x.fault(), f + 1);
            Check.refused("book(-1)", x, x.book(-1), 2);
            Check.due("the one ahead's fault", x.fault(), f + 1);
        }
        Check.fine("book", x, Check.book(x, Books.SMALL), 5);
        Check.refused("book(1)", x, x.book(1), 2);
        Check.due("none, as the one ahead", x.fault(), 0);
    }

    private static void staysByOtherCalls() {
        OneTill x = Check.of(Books.SMALL);
        Check.refused("faulty", x, Check.book(x, FAULTY[4]), 4);
        x.feed(0, 0, 0, 0, 0);
        Check.due("behind feed", x.fault(), 5);
        x.can(0);
        Check.due("behind can", x.fault(), 5);
        x.can(4);
        Check.due("behind a refusal", x.fault(), 5);
        x.mark();
        x.seed(9);
        x.make(0, 4);
        x.back(0);
        Check.due("behind changes", x.fault(), 5);
        Check.due("no trouble now", x.trouble(), 0);
    }
}
