/** Promise 18, enough(): the fewest minutes by which there is an ORDER LATE. */
public final class Promise18Test {
    public static void main(String[] args) {
        noBook();
        noneAreNeeded();
        from0To99();
        whatTheLawTellsDoesNotMatter();
        noMinutesHelp();
        tooManyStands();
        upToItAlone();
        Check.end();
    }

    private static void noBook() {
        OneTill x = new OneTill();
        Check.refused("no book", x, x.enough(), 1);
    }

    private static void noneAreNeeded() {
        OneTill x = Check.of(Books.EMPTY);
        Check.fine("no calls", x, x.enough(), 0);
        x = Check.of(Books.SMALL);
        Check.fine("an order ONE", x, x.enough(), 0);
        x = Check.of(Books.EMPTY + ";call a d put 3 from 1 open");
        Check.fine("an open one", x, x.enough(), 0);
    }

    private static void from0To99() {
        for (int minutes = 0; minutes <= 99; minutes++) {
            OneTill x = Check.of(Books.apart(0, 5, 5 + minutes));
            Check.fine("apart by " + minutes, x, x.enough(), minutes);
        }
        OneTill x = Check.of(Books.apart(0, 5, 105));
        Check.fine("apart by 100", x, x.enough(), -2);
        x = Check.of(Books.apart(0, 5, 999));
        Check.fine("apart by 994", x, x.enough(), -2);
    }

    private static void whatTheLawTellsDoesNotMatter() {
        OneTill x = Check.of(Books.apart(99, 5, 12));
        Check.fine("99 told", x, x.enough(), 7);
        Check.fine("late", x, x.late(0), 99);
        Check.fine("0 told", x, x.enough(), 7);
        Check.due("and the law stays", x.told(4), 0);
        Check.fine("late", x, x.late(6), 0);
        Check.fine("6 aren't", x, x.can(2), 0);
        Check.fine("late", x, x.late(7), 6);
        Check.fine("7 are", x, x.can(2), 1);
    }

    private static void noMinutesHelp() {
        OneTill x = Check.of(Books.NEVER);
        Check.fine("never", x, x.enough(), -2);
        x = Check.of("law late 0;till d is drawer;cashier a;call a d put 3 from 1 to 2 told 0;"
                + "call a d see from 3 to 4 told 0");
        Check.fine("a cashier's own calls stay in order", x, x.enough(), -2);
    }

    private static void tooManyStands() {
        OneTill x = Books.over(0);
        Check.refused("6,001 by no minute", x, x.enough(), 3);
    }

    private static void upToItAlone() {
        OneTill x = Books.just(0);
        Check.fine("6,000 by no minute, and an order", x, x.enough(), 0);
        x.late(99);
        Check.refused("by 99 there are too many, but they aren't asked", x, x.can(2), 3);
        Check.fine("still", x, x.enough(), 0);
        OneTill y = Check.of(Books.ENOUGH_OVER);
        Check.refused("6,001 by the minutes that would be enough", y, y.enough(), 3);
        Check.yes("lose", y, y.lose(0));
        Check.fine("6,000 by them", y, y.enough(), 2);
        for (int m = 0; m <= 2; m++) {
            y.late(m);
            Check.fine("by " + m, y, y.can(2), m == 2 ? 1 : 0);
        }
        Check.fine("6,000", y, y.stands(2), 6000);
        y.late(9);
        Check.refused("more by more", y, y.stands(2), 3);
        // the last answer can't be: each minute is asked up to one of too many stands
        x.answer(12, 99);
        Check.fine("none by no minute", x, x.can(0), 0);
        Check.refused("too many by more", x, x.enough(), 3);
    }
}
