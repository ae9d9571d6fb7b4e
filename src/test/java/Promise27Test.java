/** Promise 27, late(): the law's minutes. */
public final class Promise27Test {
    public static void main(String[] args) {
        noBook();
        minutesOutOfBounds();
        refusedTheyStay();
        tellsWhatTheyWere();
        anOrderLateKeepsThem();
        otherKindsDont();
        Check.end();
    }

    private static void noBook() {
        OneTill x = new OneTill();
        for (int m : new int[] {-1, 0, 99, 100}) {
            Check.refused("late(" + m + ")", x, x.late(m), 1);
            Check.due("told", x.told(4), 0);
        }
    }

    private static void minutesOutOfBounds() {
        OneTill x = Check.of(Books.SMALL);
        for (int m : new int[] {-1, 100, 101, Integer.MIN_VALUE, Integer.MAX_VALUE}) {
            Check.refused("late(" + m + ")", x, x.late(m), 2);
        }
        int before = 5;
        for (int m : new int[] {0, 1, 98, 99}) {
            Check.fine("late(" + m + ")", x, x.late(m), before);
            before = m;
        }
    }

    private static void refusedTheyStay() {
        OneTill x = Check.of(Books.SMALL);
        Check.refused("late(-1)", x, x.late(-1), 2);
        Check.due("told", x.told(4), 5);
        Check.refused("late(100)", x, x.late(100), 2);
        Check.due("told", x.told(4), 5);
    }

    private static void tellsWhatTheyWere() {
        OneTill x = Check.of(Books.EMPTY);
        Check.fine("0 at first", x, x.late(99), 0);
        Check.fine("99", x, x.late(0), 99);
        Check.fine("0 again", x, x.late(0), 0);
        Check.due("told", x.told(4), 0);
        x = Check.of(Books.EMPTY.replace("late 0", "late 99"));
        Check.fine("as the book told", x, x.late(98), 99);
    }

    private static void anOrderLateKeepsThem() {
        for (int apart : new int[] {0, 1, 2, 98, 99, 100}) {
            OneTill x = Check.of(Books.apart(50, 5, 5 + apart));
            for (int m : new int[] {0, 1, 2, 97, 98, 99}) {
                x.late(m);
                Check.fine(apart + " apart, late(" + m + ")", x, x.can(2), apart <= m ? 1 : 0);
            }
        }
    }

    private static void otherKindsDont() {
        OneTill x = Check.of(Books.apart(0, 5, 6));
        x.late(99);
        Check.fine("ONE", x, x.can(0), 0);
        Check.fine("OWN", x, x.can(1), 1);
        Check.fine("EACH", x, x.can(3), 0);
        Check.fine("enough", x, x.enough(), 1);
        Check.due("calls stay", x.told(2), 2);
    }
}
