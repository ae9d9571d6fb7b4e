/** Promise 22, make(): calls MADE by a MACHINE. */
public final class Promise22Test {
    public static void main(String[] args) {
        noBook();
        machinesOutOfBounds();
        numbersOutOfBounds();
        refusedNothingIsMade();
        oneToTwenty();
        inPlaceOfAllOthers();
        theMinuteOfTheLastEnd();
        seedGoesOn();
        seedWrapsAround();
        marksStay();
        Check.end();
    }

    private static int next(int seed) {
        return (int) ((75L * seed + 74) % 65537);
    }

    private static int behind(int seed, int draws) {
        int s = seed;
        for (int i = 0; i < draws; i++) {
            s = next(s);
        }
        return s;
    }

    private static void noBook() {
        OneTill x = new OneTill();
        for (int machine = -1; machine <= 3; machine++) {
            Check.refused("machine " + machine, x, x.make(machine, 1), 1);
            Check.refused("machine " + machine, x, x.make(machine, 0), 1);
        }
    }

    private static void machinesOutOfBounds() {
        OneTill x = Check.of(Books.SMALL);
        for (int machine : new int[] {-1, 3, 4, Integer.MIN_VALUE, Integer.MAX_VALUE}) {
            Check.refused("machine " + machine, x, x.make(machine, 1), 1);
            Check.refused("1 ahead of 2", x, x.make(machine, 0), 1);
            Check.refused("1 ahead of 2", x, x.make(machine, 21), 1);
        }
        for (int machine = 0; machine <= 2; machine++) {
            Check.due("machine " + machine, x.make(machine, 1) > 0, true);
            Check.due("trouble", x.trouble(), 0);
        }
    }

    private static void numbersOutOfBounds() {
        OneTill x = Check.of(Books.SMALL);
        for (int n : new int[] {0, -1, 21, 22, Integer.MIN_VALUE, Integer.MAX_VALUE}) {
            for (int machine = 0; machine <= 2; machine++) {
                Check.refused("n " + n, x, x.make(machine, n), 2);
            }
        }
        for (int n : new int[] {1, 2, 19, 20}) {
            for (int machine = 0; machine <= 2; machine++) {
                Check.due("n " + n, x.make(machine, n) > 0, true);
                Check.due("trouble", x.trouble(), 0);
                Check.due("calls", x.told(2), n);
            }
        }
    }

    private static void refusedNothingIsMade() {
        OneTill x = Check.of(Books.SMALL);
        x.seed(77);
        Check.refused("n 0", x, x.make(0, 0), 2);
        Check.refused("n 21", x, x.make(2, 21), 2);
        Check.refused("machine 3", x, x.make(3, 5), 1);
        Check.due("calls", x.told(2), 5);
        Check.due("SEED", x.told(5), 77);
        for (int c = 0; c < 5; c++) {
            Check.seen("", x, c, Books.SMALL_CALLS[c]);
        }
    }

    private static void oneToTwenty() {
        OneTill x = Check.of("law late 0;till p is purses;till q is queue;till s is set;cashier a,b,c,d");
        for (int n = 1; n <= 20; n++) {
            for (int machine = 0; machine <= 2; machine++) {
                int minute = x.make(machine, n);
                Check.due("minute", minute >= 3 && minute < 999, true);
                Check.due("calls", x.told(2), n);
                Check.due("open ones", x.told(3), 0);
            }
        }
    }

    private static void inPlaceOfAllOthers() {
        OneTill x = Check.of(Books.SMALL);
        Check.due("two open", x.told(3), 2);
        x.make(0, 1);
        Check.due("one call", x.told(2), 1);
        Check.due("none open", x.told(3), 0);
        Check.refused("no second one", x, x.call(1, 0), 1);
        Check.ledThrows("none open", x, 0);
        Check.due("the law stays", x.told(4), 5);
        Check.due("tills stay", x.told(0), 2);
        Check.due("cashiers stay", x.told(1), 3);
    }

    private static void theMinuteOfTheLastEnd() {
        OneTill x = Check.of("law late 0;till p is purses;till q is queue;cashier a,b,c,d");
        for (int seed = 0; seed < 60; seed++) {
            x.seed(seed);
            int n = 1 + seed % 20;
            int minute = x.make(seed % 3, n);
            int last = 0;
            for (int c = 0; c < n; c++) {
                last = Math.max(last, x.call(c, 5));
            }
            Check.due("seed " + seed, minute, last);
        }
        // one cashier's calls: begun, done, ended, one behind the other
        OneTill y = Check.of(Books.EMPTY);
        for (int n = 1; n <= 20; n++) {
            Check.fine(n + " calls", y, y.make(0, n), 3 * n);
            Check.seen("the last", y, n - 1, 0, 0);
            Check.due("its begin", y.call(n - 1, 4), 3 * n - 2);
            Check.due("its end", y.call(n - 1, 5), 3 * n);
        }
    }

    /** One cashier, one till: three draws and one for a whole to begin, one to be done, one to end. */
    private static void seedGoesOn() {
        OneTill x = Check.of("law late 0;till c is counter;cashier a");
        for (int seed : new int[] {0, 5, 1000, 65535}) {
            for (int machine = 0; machine <= 2; machine++) {
                x.seed(seed);
                Check.fine("one call", x, x.make(machine, 1), 3);
                Check.due("SEED of machine " + machine, x.told(5), behind(seed, machine == 2 ? 6 : 5));
            }
            x.seed(seed);
            x.make(0, 2);
            Check.due("SEED of two calls", x.told(5), behind(seed, 10));
        }
        x = Check.of("law late 0;till s is set;cashier a");
        x.seed(9);
        Check.fine("one call", x, x.make(0, 1), 3);
        Check.due("a draw more for the whole", x.told(5), behind(9, 6));
        Check.due("it", x.call(0, 3), behind(9, 4) % 10);
    }

    private static void seedWrapsAround() {
        Check.due("the last that doesn't", next(872), 65474);
        Check.due("the first that does", next(873), 12);
        int toZero = 0;
        while (next(toZero) != 0) {
            toZero++;
        }
        OneTill x = Check.of("law late 0;till c is counter;cashier a");
        for (int seed : new int[] {872, 873, toZero - 1, toZero, toZero + 1, 65535}) {
            x.seed(seed);
            x.make(0, 1);
            Check.due("SEED behind " + seed, x.told(5), behind(seed, 5));
            Check.due("the act behind " + seed, x.call(0, 2), behind(seed, 3) % 3);
        }
        // 75 times 65,536 and 74 is 65,536 again
        x.seed(65536);
        Check.fine("twenty calls", x, x.make(2, 20), 60);
        Check.due("it stays", x.told(5), 65536);
        Check.due("65,536 mod 3", x.call(19, 2), 1);
    }

    private static void marksStay() {
        OneTill x = Check.of(Books.SMALL);
        Check.fine("mark", x, x.mark(), 0);
        x.make(1, 20);
        Check.due("MARKS", x.told(6), 1);
        Check.yes("back", x, x.back(0));
        Check.due("calls", x.told(2), 5);
        Check.due("SEED", x.told(5), 0);
    }
}
