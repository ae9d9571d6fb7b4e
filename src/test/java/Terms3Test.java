import java.util.Random;

/** Terms III: what is MADE, by which draws, on which copies of the tills; SEED; MARKS. */
public final class Terms3Test {
    private static final String[] NAMES = {"a", "a,b", "a,b,e", "a,b,e,f"};

    public static void main(String[] args) {
        byOneDrawAlone();
        whatIsMade();
        oneHasNoCopies();
        copySeesItsOwnCopy();
        threeAskTwo();
        noneBeginsBehindTheLast();
        numbersAsTheyBegin();
        seedsByChance();
        marksUpToThree();
        Check.end();
    }

    private static OneTill shop(String kinds, int cashiers) {
        StringBuilder text = new StringBuilder("law late 0");
        String[] each = kinds.split(" ");
        for (int t = 0; t < each.length; t++) {
            text.append(";till ").append("pqr".charAt(t)).append(" is ").append(each[t]);
        }
        return Check.of(text + ";cashier " + NAMES[cashiers - 1]);
    }

    private static int next(int seed) {
        return (int) ((75L * seed + 74) % 65537);
    }

    /** SEED 65,536 is followed by itself: mod 2 and mod 4 it is 0, mod 3 it is 1, mod 10 it is 6. */
    private static void byOneDrawAlone() {
        String[] kinds = {"drawer", "queue", "set", "counter", "purses"};
        int[][] due = {{0, 6, 0, 0}, {0, 6, 1, 1}, {1, 6, 0, 0}, {1, 0, 0, 0}, {1, 6, 1, 0}};
        for (int k = 0; k < 5; k++) {
            for (int cashiers = 1; cashiers <= 4; cashiers++) {
                for (int machine = 0; machine <= 2; machine++) {
                    OneTill x = shop(kinds[k], cashiers);
                    x.seed(65536);
                    Check.fine(kinds[k], x, x.make(machine, 2), 6);
                    int cashier = cashiers == 3 ? 1 : 0;
                    Check.seen(kinds[k], x, 0, cashier, 0, due[k][0], due[k][1], 1, 3, due[k][2]);
                    Check.seen(kinds[k], x, 1, cashier, 0, due[k][0], due[k][1], 4, 6, due[k][3]);
                    Check.due("SEED", x.told(5), 65536);
                }
            }
        }
        OneTill x = shop("drawer queue set", 3);
        x.seed(65536);
        Check.fine("seven puts", x, x.make(0, 7), 21);
        for (int c = 0; c < 7; c++) {
            Check.seen("into a queue that has room for six", x, c, 1, 1, 0, 6, 3 * c + 1, 3 * c + 3, c < 6 ? 1 : 0);
        }
    }

    private static void made(String kinds, int cashiers, int machine, int seed, int minute, int behind, int[][] calls) {
        OneTill x = shop(kinds, cashiers);
        String what = kinds + " machine " + machine + " seed " + seed + ": ";
        Check.yes(what + "seed", x, x.seed(seed));
        Check.fine(what + "make", x, x.make(machine, calls.length), minute);
        Check.due(what + "calls", x.told(2), calls.length);
        for (int c = 0; c < calls.length; c++) {
            Check.seen(what, x, c, calls[c]);
        }
        Check.due(what + "SEED", x.told(5), behind);
    }

    private static void whatIsMade() {
        made("drawer", 2, 0, 0, 10, 63509, new int[][] {
            {0, 0, 0, 0, 1, 4, 0}, {1, 0, 2, 0, 2, 10, 4}, {0, 0, 0, 4, 5, 8, 0}});
        made("drawer", 2, 1, 0, 19, 50839, new int[][] {
            {0, 0, 0, 0, 1, 4, 0}, {1, 0, 2, 0, 2, 11, 0}, {0, 0, 0, 4, 5, 8, 0}, {0, 0, 2, 0, 9, 12, 4},
            {1, 0, 2, 0, 13, 19, 0}});
        made("drawer", 2, 2, 0, 16, 37068, new int[][] {
            {0, 0, 0, 0, 1, 4, 0}, {1, 0, 2, 0, 2, 8, 0}, {0, 0, 2, 0, 6, 10, 0}, {1, 0, 2, 0, 9, 12, 0},
            {0, 0, 0, 9, 13, 16, 0}});
        made("queue set", 3, 1, 42, 28, 56550, new int[][] {
            {2, 1, 2, 1, 1, 5, 0}, {0, 1, 0, 2, 2, 7, 1}, {1, 1, 0, 9, 6, 11, 1}, {0, 0, 0, 1, 8, 13, 1},
            {2, 1, 2, 4, 12, 16, 0}, {0, 0, 0, 8, 15, 28, 1}});
        made("purses counter drawer", 4, 1, 7, 28, 8996, new int[][] {
            {3, 2, 0, 5, 1, 7, 0}, {1, 1, 1, 0, 2, 11, 0}, {2, 0, 1, 4, 3, 12, 1}, {0, 2, 2, 0, 4, 18, 0},
            {3, 1, 1, 0, 10, 19, 0}, {2, 2, 2, 0, 13, 20, 5}, {1, 2, 2, 0, 14, 22, 0}, {0, 2, 2, 0, 21, 28, 0}});
        made("purses counter drawer", 4, 2, 7, 31, 2929, new int[][] {
            {3, 2, 0, 5, 1, 13, 0}, {1, 1, 1, 0, 2, 8, 0}, {2, 0, 1, 4, 3, 9, 1}, {0, 2, 2, 0, 4, 20, 5},
            {1, 1, 1, 0, 10, 14, 0}, {2, 2, 0, 5, 15, 17, 0}, {1, 0, 2, 0, 18, 31, 10}, {3, 0, 0, 3, 19, 26, 1}});
        made("set queue purses", 4, 0, 65535, 29, 6496, new int[][] {
            {1, 1, 1, 0, 1, 5, 0}, {2, 2, 2, 0, 3, 10, 9}, {3, 0, 0, 6, 4, 8, 1}, {1, 2, 2, 0, 6, 20, 9},
            {0, 2, 2, 0, 12, 19, 9}, {2, 1, 1, 0, 13, 21, 0}, {3, 1, 0, 9, 14, 18, 1}, {0, 0, 0, 6, 22, 29, 0}});
        made("counter", 1, 2, 872, 12, 23997, new int[][] {
            {0, 0, 2, 0, 1, 3, 0}, {0, 0, 2, 0, 4, 6, 0}, {0, 0, 2, 0, 7, 9, 0}, {0, 0, 0, 0, 10, 12, 1}});
        made("counter", 1, 2, 873, 12, 35135, new int[][] {
            {0, 0, 0, 0, 1, 3, 1}, {0, 0, 0, 0, 4, 6, 2}, {0, 0, 2, 0, 7, 9, 1}, {0, 0, 2, 0, 10, 12, 1}});
        made("counter counter counter", 4, 1, 12345, 27, 8692, new int[][] {
            {3, 2, 2, 0, 1, 7, 0}, {1, 0, 1, 0, 2, 5, 0}, {1, 1, 1, 0, 6, 15, 0}, {2, 0, 1, 0, 8, 11, 0},
            {3, 1, 2, 0, 10, 17, 0}, {0, 2, 2, 0, 13, 27, 0}, {3, 2, 1, 0, 18, 26, 0}, {2, 0, 0, 0, 19, 21, 1}});
        made("queue", 4, 2, 999, 37, 20997, new int[][] {
            {2, 0, 0, 9, 1, 3, 1}, {1, 0, 0, 4, 4, 11, 1}, {2, 0, 1, 0, 5, 13, 10}, {3, 0, 1, 0, 7, 20, 5},
            {0, 0, 0, 3, 8, 17, 1}, {1, 0, 0, 9, 12, 37, 1}, {2, 0, 0, 4, 14, 18, 1}, {0, 0, 1, 0, 19, 26, 5}});
    }

    /** All that ONE makes could have happened one behind the other. */
    private static void oneHasNoCopies() {
        OneTill x = shop("purses queue set", 4);
        for (int seed = 0; seed < 30; seed++) {
            x.seed(seed * 2000);
            x.make(0, 12);
            Check.fine("seed " + seed * 2000, x, x.can(0), 1);
        }
    }

    /** A call of its own put or take brings its copy up to the tills; till then it sees what was. */
    private static void copySeesItsOwnCopy() {
        OneTill x = shop("counter", 1);
        for (int seed = 0; seed < 40; seed++) {
            x.seed(seed * 1000);
            x.make(1, 10);
            Check.fine("one cashier's copy is always as the tills", x, x.can(0), 1);
        }
        x = shop("drawer", 2);
        x.seed(0);
        x.make(1, 5);
        Check.fine("b sees 0, though a put 4", x, x.call(4, 6), 0);
        Check.fine("a sees its 4", x, x.call(3, 6), 4);
        Check.fine("that can't be of ONE", x, x.can(0), 0);
    }

    private static void threeAskTwo() {
        OneTill x = shop("counter", 1);
        x.seed(872);
        x.make(2, 4);
        Check.fine("nothing was put yet", x, x.call(2, 6), 0);
        x.seed(873);
        x.make(2, 4);
        Check.fine("one of two puts was not seen", x, x.call(2, 6), 1);
        Check.fine("no order", x, x.can(0), 0);
    }

    /** With all calls begun, one that is idle and drawn does nothing: its draw alone is made. */
    private static void noneBeginsBehindTheLast() {
        OneTill x = shop("counter", 4);
        for (int seed = 0; seed < 50; seed++) {
            x.seed(seed);
            int minute = x.make(0, 1);
            Check.due("one call", x.told(2), 1);
            int s = seed;
            for (int draw = 0; draw < minute + 2; draw++) {
                s = next(s);
            }
            Check.due("a draw a minute, two for the call", x.told(5), s);
            Check.due("it begins at once", x.call(0, 4), 1);
            Check.due("and ends in the last minute", x.call(0, 5), minute);
        }
    }

    private static void numbersAsTheyBegin() {
        OneTill x = shop("set queue", 4);
        for (int seed = 0; seed < 50; seed++) {
            x.seed(seed);
            x.make(seed % 3, 20);
            for (int c = 1; c < 20; c++) {
                Check.due("begin of " + c, x.call(c, 4) > x.call(c - 1, 4), true);
                Check.due("end of " + c, x.call(c, 5) >= x.call(c, 4) + 2, true);
            }
        }
    }

    private static void seedsByChance() {
        Random r = new Random(65537);
        for (int i = 0; i < 300; i++) {
            Oracle o = Oracle.random(r, 0, 1);
            OneTill x = Check.of(o.text());
            int machine = i % 3;
            int n = 1 + r.nextInt(20);
            o.seed = i % 4 == 0 ? 65536 - i / 4 : r.nextInt(65537);
            x.seed((int) o.seed);
            String what = o.text() + " machine " + machine + " seed " + o.seed + ": ";
            o.make(machine, n);
            Check.fine(what + "make", x, x.make(machine, n), o.lastMinute);
            Check.due(what + "SEED", x.told(5), o.seed);
            for (int c = 0; c < n; c++) {
                Oracle.Call call = o.calls.get(c);
                Check.seen(what, x, c, call.cashier, call.till, call.act, call.whole, call.begin, call.end, call.told);
            }
        }
    }

    private static void marksUpToThree() {
        OneTill x = shop("set", 2);
        for (int m = 0; m < 3; m++) {
            x.make(0, 1 + m);
            Check.fine("mark", x, x.mark(), m);
        }
        Check.refused("a fourth", x, x.mark(), 3);
        for (int m = 0; m < 3; m++) {
            Check.yes("back", x, x.back(m));
            Check.due("calls", x.told(2), 1 + m);
        }
    }
}
