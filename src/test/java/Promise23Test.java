/** Promise 23, breaks(): the first SEED by which n calls MADE have no ORDER. */
public final class Promise23Test {
    private static final String AT_99 = "law late 0;till p is set;till q is counter;till r is set;cashier a";
    private static final String AT_100 = "law late 0;till p is purses;till q is drawer;cashier a,b,c,d";
    private static final String AT_0 = "law late 0;till p is drawer;cashier a,b";

    public static void main(String[] args) {
        noBook();
        kindsOutOfBounds();
        machinesOutOfBounds();
        numbersOutOfBounds();
        theFirstSeed();
        theLastSeed();
        behindTheLastSeed();
        thereIsNone();
        callsAndSeedStay();
        Check.end();
    }

    private static void noBook() {
        OneTill x = new OneTill();
        Check.refused("breaks", x, x.breaks(0, 0, 1), 1);
        Check.refused("breaks", x, x.breaks(0, 0, 0), 1);
    }

    private static void kindsOutOfBounds() {
        OneTill x = Check.of(AT_0);
        for (int kind : new int[] {-1, 4, 5, Integer.MIN_VALUE, Integer.MAX_VALUE}) {
            Check.refused("kind " + kind, x, x.breaks(kind, 1, 5), 1);
            Check.refused("1 ahead of 2", x, x.breaks(kind, 1, 9), 1);
        }
        int[] due = {0, -2, 0, 0};
        for (int kind = 0; kind <= 3; kind++) {
            if (kind != 1) {
                Check.fine("kind " + kind, x, x.breaks(kind, 1, 5), due[kind]);
            }
        }
        Check.due("kind 1 is one", x.breaks(1, 1, 5) != -1, true);
    }

    private static void machinesOutOfBounds() {
        OneTill x = Check.of(AT_0);
        for (int machine : new int[] {-1, 3, 4, Integer.MIN_VALUE, Integer.MAX_VALUE}) {
            Check.refused("machine " + machine, x, x.breaks(0, machine, 5), 1);
            Check.refused("1 ahead of 2", x, x.breaks(0, machine, 0), 1);
        }
        for (int machine = 0; machine <= 2; machine++) {
            Check.due("machine " + machine, x.breaks(0, machine, 5) != -1, true);
            Check.due("trouble", x.trouble(), 0);
        }
    }

    private static void numbersOutOfBounds() {
        OneTill x = Check.of(AT_0);
        for (int n : new int[] {0, -1, 9, 10, 20, Integer.MIN_VALUE, Integer.MAX_VALUE}) {
            Check.refused("n " + n, x, x.breaks(0, 1, n), 2);
        }
        Check.fine("one call alone", x, x.breaks(0, 1, 1), -2);
        for (int n = 5; n <= 8; n++) {
            Check.fine(n + " calls", x, x.breaks(0, 1, n), 0);
        }
    }

    private static void theFirstSeed() {
        OneTill x = Check.of(AT_0);
        Check.fine("0", x, x.breaks(0, 1, 8), 0);
        x.make(1, 8);
        Check.fine("no order by 0", x, x.can(0), 0);
    }

    private static void theLastSeed() {
        for (int n = 2; n <= 3; n++) {
            for (int kind = 0; kind <= 3; kind++) {
                OneTill x = Check.of(AT_99);
                Check.fine("99", x, x.breaks(kind, 2, n), 99);
                x.seed(99);
                x.make(2, n);
                Check.fine("no order by 99", x, x.can(kind), 0);
                for (int seed = 0; seed < 99; seed++) {
                    x.seed(seed);
                    x.make(2, n);
                    Check.fine("an order by " + seed, x, x.can(kind), 1);
                }
            }
        }
    }

    private static void behindTheLastSeed() {
        OneTill x = Check.of(AT_100);
        for (int kind : new int[] {0, 2, 3}) {
            Check.fine("not up to 99", x, x.breaks(kind, 1, 2), -2);
        }
        x.seed(100);
        x.make(1, 2);
        Check.fine("no order by 100", x, x.can(0), 0);
    }

    private static void thereIsNone() {
        OneTill x = Check.of("law late 0;till q is queue;till d is drawer;till s is set;cashier a,b,c,e");
        for (int kind = 0; kind <= 3; kind++) {
            for (int n = 1; n <= 8; n += 7) {
                Check.fine("ONE never breaks, kind " + kind, x, x.breaks(kind, 0, n), -2);
            }
        }
    }

    private static void callsAndSeedStay() {
        String[] books = {AT_0, AT_100, AT_99};
        int[] due = {0, -2, 99};
        int[][] how = {{1, 5}, {1, 2}, {2, 2}};
        for (int i = 0; i < 3; i++) {
            OneTill x = Check.of(books[i]);
            x.seed(4711);
            x.make(0, 7);
            x.seed(65536);
            Check.fine("mark", x, x.mark(), 0);
            int[] seen = new int[49];
            for (int j = 0; j < 49; j++) {
                seen[j] = x.call(j / 7, j % 7);
            }
            Check.fine("breaks", x, x.breaks(0, how[i][0], how[i][1]), due[i]);
            Check.refused("breaks refused", x, x.breaks(0, 0, 9), 2);
            Check.due("SEED", x.told(5), 65536);
            Check.due("calls", x.told(2), 7);
            Check.due("MARKS", x.told(6), 1);
            for (int j = 0; j < 49; j++) {
                Check.due("call", x.call(j / 7, j % 7), seen[j]);
            }
        }
    }
}
