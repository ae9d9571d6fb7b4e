import java.util.NoSuchElementException;
import java.util.Random;

/** Promises 1 to 5, 21 to 33: the state, its changes, every refusal and its trouble; nothing else is thrown. */
public final class FaceTest {
    private static final String BOOK = "law late 5;till d is drawer;till q is queue;cashier a,b,c;"
            + "call a d put 4 from 1 to 3 told 0;call b d see from 2 to 6 told 4;"
            + "call a q put 7 from 5 to 8 told 1;call b q take from 9 open;call a d see from 10 open";

    public static void main(String[] args) {
        fresh();
        feed();
        book();
        wheres();
        refusals();
        seeds();
        answers();
        loses();
        opens();
        lates();
        marks();
        seen();
        wild();
        Check.end();
    }

    private static void fresh() {
        OneTill x = new OneTill();
        Check.due("trouble at first", x.trouble(), 0);
        for (int w = 0; w <= 7; w++) {
            Check.due("told at first " + w, x.told(w), 0);
        }
        Check.due("told(8)", x.told(8), -1);
        Check.due("told(-1)", x.told(-1), -1);
        Check.due("fault at first", x.fault(), 0);
        Check.due("where at first", x.where(), -1);
        Check.ledThrows("at first", x, 0);
        Check.due("none of these is refused", x.trouble(), 0);
        for (int kind = -1; kind <= 4; kind++) {
            Check.refused("can without a book", x, x.can(kind), 1);
            Check.refused("orders without a book", x, x.orders(kind), 1);
            Check.refused("size without a book", x, x.size(kind), 1);
            Check.refused("order without a book", x, x.order(kind, 0), 1);
            Check.refused("stands without a book", x, x.stands(kind), 1);
            Check.refused("ends without a book", x, x.ends(kind), 1);
            Check.refused("firsts without a book", x, x.firsts(kind), 1);
            Check.refused("ahead without a book", x, x.ahead(kind, 0, 1), 1);
            Check.refused("bad without a book", x, x.bad(kind), 1);
            Check.refused("core without a book", x, x.core(kind), 1);
            Check.refused("could without a book", x, x.could(kind, 0), 1);
            Check.refused("couldTell without a book", x, x.couldTell(kind, 0, true), 1);
            Check.refused("breaks without a book", x, x.breaks(kind, 0, 9), 1);
        }
        Check.refused("each without a book", x, x.each(0), 1);
        Check.refused("mends without a book", x, x.mends(), 1);
        Check.refused("enough without a book", x, x.enough(), 1);
        Check.refused("make without a book", x, x.make(0, 21), 1);
        Check.refused("answer without a book", x, x.answer(0, 100), 1);
        Check.refused("opens without a book", x, x.opens(0), 1);
        Check.refused("late without a book", x, x.late(100), 1);
        Check.refused("mark without a book", x, x.mark(), 1);
        Check.refused("call without a book", x, x.call(0, 0), 1);
        no("seed without a book", x, x.seed(-1), 1);
        no("lose without a book", x, x.lose(0), 1);
        no("back without a book", x, x.back(0), 1);
    }

    private static void no(String what, OneTill x, boolean got, int trouble) {
        Check.due(what, got, false);
        Check.due(what + " trouble", x.trouble(), trouble);
    }

    private static void yes(String what, OneTill x, boolean got) {
        Check.due(what, got, true);
        Check.due(what + " trouble", x.trouble(), 0);
    }

    private static void feed() {
        OneTill x = new OneTill();
        Check.refused("a refusal ahead of feed", x, x.book(1), 2);
        for (int i = 1; i <= 45; i++) {
            Check.due("feed " + i, x.feed(0x6c617720, 0x6c617465, 0x20202020, 0x20202020, 0x20202020), 20 * i);
        }
        Check.due("feed 46", x.feed(1, 2, 3, 4, 5), -1);
        Check.due("told(7) full", x.told(7), 900);
        Check.due("feed is no call with a trouble", x.trouble(), 2);
        Check.refused("book(901)", x, x.book(901), 2);
        Check.due("the tape stays", x.told(7), 900);
        Check.refused("book(900)", x, x.book(900), 4);
        Check.due("fault", x.fault(), 1);
        Check.due("where", x.where(), 20);
        Check.due("the tape is empty", x.told(7), 0);
        Check.due("feed again", x.feed(-1, -1, -1, -1, -1), 20);
        Check.refused("bytes 255", x, x.book(20), 4);
        Check.due("where", x.where(), 0);
        // the highest byte first, each of the five numbers in its turn
        x.feed(0x6c617720, 0x6c617465, 0x39203b74, 0x696c6c20, 0x74206973);
        x.feed(0x20736574, 0x3b636173, 0x68696572, 0x20612c62, 0x3b000000);
        Check.fine("book", x, x.book(36), 0);
        Check.due("law", x.told(4), 9);
        Check.due("cashiers", x.told(1), 2);
    }

    private static void book() {
        OneTill x = Check.of(BOOK);
        int[] told = {2, 3, 5, 2, 5, 0, 0, 0};
        for (int w = 0; w < told.length; w++) {
            Check.due("told " + w, x.told(w), told[w]);
        }
        yes("seed", x, x.seed(77));
        Check.fine("mark", x, x.mark(), 0);
        Check.feed(x, "till");
        Check.refused("book(-1)", x, x.book(-1), 2);
        Check.refused("book(21)", x, x.book(21), 2);
        Check.due("where by 2", x.where(), -1);
        Check.due("tape", x.told(7), 20);
        Check.refused("book(4)", x, x.book(4), 4);
        Check.due("fault", x.fault(), 1);
        Check.due("where", x.where(), 4);
        Check.due("tape", x.told(7), 0);
        Check.refused("book(0)", x, x.book(0), 4);
        Check.due("fault of nothing", x.fault(), 1);
        Check.due("where of nothing", x.where(), 0);
        // the book stays, with its seed and marks
        int[] same = {2, 3, 5, 2, 5, 77, 1, 0};
        for (int w = 0; w < same.length; w++) {
            Check.due("still told " + w, x.told(w), same[w]);
        }
        Check.due("still its calls", x.call(1, 6), 4);
        Check.fine("another book", x, Check.book(x, "till t is set;cashier a;law late 3;call a t put 1 from 2 open"), 1);
        int[] next = {1, 1, 1, 1, 3, 0, 0, 0};
        for (int w = 0; w < next.length; w++) {
            Check.due("now told " + w, x.told(w), next[w]);
        }
        Check.due("fault now", x.fault(), 0);
        no("its marks are gone", x, x.back(0), 1);
        Check.feed(x, "law late 8;till t is set;cashier a;junk?");
        Check.fine("the first bytes alone", x, x.book(34), 0);
        Check.due("law", x.told(4), 8);
    }

    private static void wheres() {
        OneTill x = Check.of(BOOK);
        Check.refused("faulty", x, Check.book(x, "law late 111"), 4);
        Check.due("where", x.where(), 9);
        x.fault();
        x.told(2);
        x.trouble();
        x.led(0);
        Check.ledThrows("two are open", x, 2);
        x.feed(0, 0, 0, 0, 0);
        Check.due("where still", x.where(), 9);
        Check.refused("book refused by 2", x, x.book(30), 2);
        Check.due("where is none now", x.where(), -1);
        Check.due("fault is the one before", x.fault(), 4);
        Check.fine("can", x, x.can(0), 1);
        Check.due("where after can", x.where(), -1);
        Check.due("fault after can", x.fault(), 4);
        Check.refused("a zero byte", x, x.book(20), 4);
        Check.due("fault", x.fault(), 1);
        Check.due("where", x.where(), 0);
        Check.refused("no such call", x, x.call(5, 0), 1);
        Check.due("where after it", x.where(), -1);
    }

    private static void refusals() {
        OneTill x = Check.of(BOOK);
        int[] bad = {-1, 3, 4, Integer.MIN_VALUE, Integer.MAX_VALUE};
        for (int kind : bad) {
            Check.refused("size " + kind, x, x.size(kind), 1);
            Check.refused("order " + kind, x, x.order(kind, 0), 1);
            Check.refused("stands " + kind, x, x.stands(kind), 1);
            Check.refused("ends " + kind, x, x.ends(kind), 1);
            Check.refused("firsts " + kind, x, x.firsts(kind), 1);
            Check.refused("ahead " + kind, x, x.ahead(kind, 0, 1), 1);
            Check.refused("bad " + kind, x, x.bad(kind), 1);
            Check.refused("core " + kind, x, x.core(kind), 1);
            Check.refused("could " + kind, x, x.could(kind, 0), 1);
            Check.refused("couldTell " + kind, x, x.couldTell(kind, 0, false), 1);
            if (kind != 3) {
                Check.refused("can " + kind, x, x.can(kind), 1);
                Check.refused("orders " + kind, x, x.orders(kind), 1);
                Check.refused("breaks " + kind, x, x.breaks(kind, 0, 1), 1);
            }
            if (kind != 4) {
                Check.refused("make " + kind, x, x.make(kind, 0), 1);
                Check.refused("breaks machine " + kind, x, x.breaks(0, kind, 9), 1);
            }
        }
        for (int c : new int[] {-1, 5, 20, Integer.MIN_VALUE, Integer.MAX_VALUE}) {
            Check.refused("could call " + c, x, x.could(0, c), 1);
            Check.refused("couldTell call " + c, x, x.couldTell(0, c, true), 1);
            Check.refused("ahead call " + c, x, x.ahead(0, c, 1), 1);
            Check.refused("ahead other " + c, x, x.ahead(0, 1, c), 1);
            Check.refused("answer call " + c, x, x.answer(c, 1), 1);
            Check.refused("call " + c, x, x.call(c, 1), 1);
            no("lose " + c, x, x.lose(c), 1);
            Check.ledThrows("led " + c, x, c);
            Check.refused("each " + c, x, x.each(c), 1);
        }
        Check.refused("ahead of itself", x, x.ahead(0, 2, 2), 1);
        Check.refused("each(2)", x, x.each(2), 1);
        Check.refused("order -1", x, x.order(0, -1), 1);
        Check.refused("order of size", x, x.order(0, x.size(0)), 1);
        Check.refused("order large", x, x.order(0, Integer.MAX_VALUE), 1);
        Check.refused("breaks n 0", x, x.breaks(0, 0, 0), 2);
        Check.refused("breaks n 9", x, x.breaks(0, 0, 9), 2);
        Check.refused("make n 0", x, x.make(0, 0), 2);
        Check.refused("make n 21", x, x.make(0, 21), 2);
        Check.due("all calls are still there", x.told(2), 5);
        Check.refused("mends", x, x.mends(), 5);
        Check.refused("call what 7", x, x.call(0, 7), 1);
        Check.refused("call what -1", x, x.call(0, -1), 1);
    }

    private static void seeds() {
        OneTill x = Check.of(BOOK);
        no("seed -1", x, x.seed(-1), 2);
        no("seed 65,537", x, x.seed(65537), 2);
        yes("seed 0", x, x.seed(0));
        yes("seed 65,536", x, x.seed(65536));
        Check.due("told(5)", x.told(5), 65536);
        // 75 times 65,536 and 74 is the same again: draws mod 3 are 1, mod 2 are 0, mod 10 are 6
        Check.fine("make", x, x.make(2, 2), 6);
        int[][] due = {{1, 0, 0, 6, 1, 3, 0}, {1, 0, 0, 6, 4, 6, 0}};
        for (int c = 0; c < 2; c++) {
            for (int w = 0; w < 7; w++) {
                Check.fine("made call " + c + " " + w, x, x.call(c, w), due[c][w]);
            }
        }
        Check.due("seed stays there", x.told(5), 65536);
        Check.due("two calls", x.told(2), 2);
        Check.fine("make 20", x, x.make(0, 20), 60);
        Check.due("twenty calls", x.told(2), 20);
        yes("seed", x, x.seed(5));
        Check.fine("breaks", x, x.breaks(0, 0, 8), -2);
        Check.due("breaks leaves calls", x.told(2), 20);
        Check.due("breaks leaves the seed", x.told(5), 5);
        OneTill y = Check.of("law late 1;till d is drawer;cashier a,b");
        yes("seed", y, y.seed(5));
        int found = y.breaks(0, 1, 3);
        Check.due("a copy for each breaks, but not at once", found > 0, true);
        Check.due("breaks that finds leaves calls", y.told(2), 0);
        Check.due("breaks that finds leaves the seed", y.told(5), 5);
        yes("seed found", y, y.seed(found));
        y.make(1, 3);
        Check.fine("what breaks", y, y.can(0), 0);
        for (int s = 0; s < found; s++) {
            yes("seed below", y, y.seed(s));
            y.make(1, 3);
            Check.fine("what doesn't", y, y.can(0), 1);
        }
    }

    private static void answers() {
        OneTill x = Check.of(BOOK);
        Check.fine("could all be", x, x.can(0), 1);
        Check.refused("-1", x, x.answer(1, -1), 2);
        Check.refused("100", x, x.answer(1, 100), 2);
        Check.refused("open, 100", x, x.answer(3, 100), 2);
        Check.refused("open", x, x.answer(3, 0), 5);
        Check.fine("answer", x, x.answer(1, 99), 4);
        Check.fine("answer again", x, x.answer(1, 0), 99);
        Check.due("its end stays", x.call(1, 5), 6);
        Check.due("what it told", x.call(1, 6), 0);
        Check.fine("0 is what it was at first", x, x.can(0), 1);
        Check.fine("answer 3", x, x.answer(1, 3), 0);
        Check.fine("never 3", x, x.can(0), 0);
        Check.fine("core", x, x.core(0), 2);
        Check.fine("bad", x, x.bad(0), 1);
    }

    private static void loses() {
        OneTill x = Check.of(BOOK);
        yes("lose 1", x, x.lose(1));
        Check.due("four left", x.told(2), 4);
        int[][] due = {{0, 0, 0, 4, 1, 3, 0}, {0, 1, 0, 7, 5, 8, 1}, {1, 1, 1, 0, 9, -2, -2}, {0, 0, 2, 0, 10, -2, -2}};
        for (int c = 0; c < 4; c++) {
            for (int w = 0; w < 7; w++) {
                Check.fine("left call " + c + " " + w, x, x.call(c, w), due[c][w]);
            }
        }
        Check.refused("none such", x, x.call(4, 0), 1);
        yes("lose the last", x, x.lose(3));
        no("lose it again", x, x.lose(3), 1);
        yes("lose", x, x.lose(0));
        yes("lose", x, x.lose(0));
        yes("lose", x, x.lose(0));
        Check.due("none left", x.told(2), 0);
        Check.fine("the empty order", x, x.size(0), 0);
        Check.fine("one order", x, x.orders(3), 1);
    }

    private static void opens() {
        OneTill x = Check.of(BOOK);
        Check.refused("opens -1", x, x.opens(-1), 1);
        Check.refused("opens 3", x, x.opens(3), 1);
        Check.refused("c has no call", x, x.opens(2), 6);
        Check.refused("a's last one is open", x, x.opens(0), 5);
        yes("lose it", x, x.lose(4));
        Check.fine("opens", x, x.opens(0), 2);
        Check.due("its end", x.call(2, 5), -2);
        Check.due("its answer", x.call(2, 6), -2);
        Check.due("its begin", x.call(2, 4), 5);
        Check.refused("once more", x, x.opens(0), 5);
        Check.due("two open", x.told(3), 2);
        Check.due("led 0", x.led(0), 2);
        Check.due("led 1", x.led(1), 3);
        Check.ledThrows("two open", x, 2);
        Check.ledThrows("two open", x, -1);
        Check.due("led has no trouble", x.trouble(), 5);
    }

    private static void lates() {
        OneTill x = Check.of("law late 2;till d is drawer;cashier a,b;call a d put 3 from 1 to 2 told 0;"
                + "call b d see from 6 to 7 told 0");
        Check.fine("2 minutes don't do", x, x.can(2), 0);
        Check.fine("four do", x, x.enough(), 4);
        Check.fine("late", x, x.late(3), 2);
        Check.fine("3 don't", x, x.can(2), 0);
        Check.fine("late", x, x.late(4), 3);
        Check.fine("4 do", x, x.can(2), 1);
        Check.fine("ONE does not know them", x, x.can(0), 0);
        Check.refused("late -1", x, x.late(-1), 2);
        Check.refused("late 100", x, x.late(100), 2);
        Check.fine("late 99", x, x.late(99), 4);
        Check.fine("late 0", x, x.late(0), 99);
        Check.due("told(4)", x.told(4), 0);
        Check.fine("mends: a's end, later", x, x.mends(), 1);
        Check.fine("enough does not ask the law", x, x.enough(), 4);
        Check.fine("never", x, x.answer(1, 9), 0);
        Check.fine("99 aren't enough", x, x.enough(), -2);
        Check.fine("nothing mends", x, x.mends(), 0);
        x = Check.of("law late 2;till d is drawer;cashier a,b;call a d put 3 from 1 to 2 told 0;"
                + "call b d see from 101 to 107 told 0");
        Check.fine("99 are just enough", x, x.enough(), 99);
        x = Check.of("law late 2;till d is drawer;cashier a,b;call a d put 3 from 1 to 2 told 0;"
                + "call b d see from 102 to 107 told 0");
        Check.fine("100 would be", x, x.enough(), -2);
    }

    private static void marks() {
        OneTill x = Check.of(BOOK);
        yes("seed", x, x.seed(9));
        Check.fine("mark 0", x, x.mark(), 0);
        x.lose(0);
        yes("seed", x, x.seed(10));
        x.late(44);
        Check.fine("mark 1", x, x.mark(), 1);
        x.make(0, 7);
        Check.fine("mark 2", x, x.mark(), 2);
        Check.refused("mark 3", x, x.mark(), 3);
        Check.due("three marks", x.told(6), 3);
        no("back -1", x, x.back(-1), 1);
        no("back 3", x, x.back(3), 1);
        yes("back 0", x, x.back(0));
        Check.due("five calls", x.told(2), 5);
        Check.due("seed 9", x.told(5), 9);
        Check.due("the law stays", x.told(4), 44);
        x.answer(0, 50);
        yes("back 1", x, x.back(1));
        Check.due("four calls", x.told(2), 4);
        Check.due("seed 10", x.told(5), 10);
        yes("back 2", x, x.back(2));
        Check.due("seven calls", x.told(2), 7);
        yes("back 0 again", x, x.back(0));
        Check.due("a mark keeps what it kept", x.call(0, 6), 0);
        Check.due("all marks stay", x.told(6), 3);
    }

    private static void seen() {
        OneTill x = Check.of(BOOK);
        int[][] due = {{0, 0, 0, 4, 1, 3, 0}, {1, 0, 2, 0, 2, 6, 4}, {0, 1, 0, 7, 5, 8, 1},
            {1, 1, 1, 0, 9, -2, -2}, {0, 0, 2, 0, 10, -2, -2}};
        for (int c = 0; c < due.length; c++) {
            for (int w = 0; w < 7; w++) {
                Check.fine("call " + c + " " + w, x, x.call(c, w), due[c][w]);
            }
        }
        Check.due("led 0", x.led(0), 3);
        Check.due("led 1", x.led(1), 4);
    }

    // ---- nothing is thrown but by led, whatever is asked

    private static int any(Random r) {
        switch (r.nextInt(12)) {
            case 0:
                return Integer.MIN_VALUE + r.nextInt(3);
            case 1:
                return Integer.MAX_VALUE - r.nextInt(3);
            case 2:
                return r.nextInt();
            case 3:
                return -1 - r.nextInt(3);
            default:
                return r.nextInt(r.nextInt(4) == 0 ? 25 : 5);
        }
    }

    private static void wild() {
        Random r = new Random(3);
        for (int run = 0; run < 150 && !Check.wentWrong(); run++) {
            OneTill x = new OneTill();
            for (int i = 0; i < 200; i++) {
                int what = r.nextInt(34);
                try {
                    ask(x, what, r);
                } catch (NoSuchElementException e) {
                    Check.due("call " + what + " throws", what, 31);
                } catch (RuntimeException e) {
                    e.printStackTrace();
                    Check.due("call " + what + " throws", 1, 0);
                }
                Check.due("trouble is one", x.trouble() >= 0 && x.trouble() <= 6, true);
            }
        }
    }

    private static void ask(OneTill x, int what, Random r) {
        int a = any(r);
        int b = any(r);
        int c = any(r);
        switch (what) {
            case 2 -> x.feed(a, b, c, any(r), any(r));
            case 3 -> {
                if (r.nextBoolean()) {
                    x.book(a);
                } else {
                    Check.book(x, Oracle.random(r, 12, 5).text());
                }
            }
            case 4 -> x.fault();
            case 5 -> x.where();
            case 6 -> x.can(a);
            case 7 -> x.orders(a);
            case 8 -> x.size(a);
            case 9 -> x.order(a, b);
            case 10 -> x.stands(a);
            case 11 -> x.ends(a);
            case 12 -> x.firsts(a);
            case 13 -> x.ahead(a, b, c);
            case 14 -> x.each(a);
            case 15 -> x.bad(a);
            case 16 -> x.core(a);
            case 17 -> x.mends();
            case 18 -> x.enough();
            case 19 -> x.could(a, b);
            case 20 -> x.couldTell(a, b, r.nextBoolean());
            case 21 -> x.seed(r.nextBoolean() ? a : r.nextInt(65537));
            case 22 -> x.make(a, b);
            case 23 -> x.breaks(a, b, c);
            case 24 -> x.answer(a, b);
            case 25 -> x.lose(a);
            case 26 -> x.opens(a);
            case 27 -> x.late(a);
            case 28 -> x.mark();
            case 29 -> x.back(a);
            case 30 -> x.call(a, b);
            case 31 -> x.led(a);
            case 32 -> x.told(a);
            default -> x.trouble();
        }
    }
}
