/** Promise 1, OneTill(): a new object has no BOOK. */
public final class Promise01Test {
    public static void main(String[] args) {
        seesNothing();
        hasNoTrouble();
        hasNoBookToAsk();
        hasNoBookToChange();
        noBookComesAheadOfNumbers();
        isOnItsOwn();
        Check.end();
    }

    private static void seesNothing() {
        OneTill x = new OneTill();
        for (int w = 0; w <= 7; w++) {
            Check.due("told " + w, x.told(w), 0);
        }
        Check.ledThrows("no call", x, 0);
        Check.ledThrows("no call", x, -1);
        Check.due("NONE", OneTill.NONE, -1);
    }

    private static void hasNoTrouble() {
        OneTill x = new OneTill();
        Check.due("trouble", x.trouble(), 0);
        Check.due("fault", x.fault(), 0);
        Check.due("where", x.where(), -1);
        Check.due("trouble", x.trouble(), 0);
    }

    private static void hasNoBookToAsk() {
        for (int kind = 0; kind <= 3; kind++) {
            OneTill x = new OneTill();
            Check.refused("can", x, x.can(kind), 1);
            Check.refused("orders", x, x.orders(kind), 1);
            Check.refused("size", x, x.size(kind), 1);
            Check.refused("order", x, x.order(kind, 0), 1);
            Check.refused("stands", x, x.stands(kind), 1);
            Check.refused("ends", x, x.ends(kind), 1);
            Check.refused("firsts", x, x.firsts(kind), 1);
            Check.refused("ahead", x, x.ahead(kind, 0, 1), 1);
            Check.refused("bad", x, x.bad(kind), 1);
            Check.refused("core", x, x.core(kind), 1);
            Check.refused("could", x, x.could(kind, 0), 1);
            Check.refused("couldTell", x, x.couldTell(kind, 0, false), 1);
            Check.refused("breaks", x, x.breaks(kind, 0, 1), 1);
        }
        OneTill x = new OneTill();
        Check.refused("each", x, x.each(0), 1);
        Check.refused("mends", x, x.mends(), 1);
        Check.refused("enough", x, x.enough(), 1);
        Check.refused("call", x, x.call(0, 0), 1);
        Check.due("still nothing", x.told(2), 0);
    }

    private static void hasNoBookToChange() {
        OneTill x = new OneTill();
        Check.no("seed", x, x.seed(5), 1);
        Check.due("SEED", x.told(5), 0);
        Check.refused("make", x, x.make(0, 3), 1);
        Check.due("calls", x.told(2), 0);
        Check.refused("answer", x, x.answer(0, 0), 1);
        Check.no("lose", x, x.lose(0), 1);
        Check.refused("opens", x, x.opens(0), 1);
        Check.refused("late", x, x.late(7), 1);
        Check.due("minutes", x.told(4), 0);
        Check.refused("mark", x, x.mark(), 1);
        Check.due("MARKS", x.told(6), 0);
        Check.no("back", x, x.back(0), 1);
    }

    private static void noBookComesAheadOfNumbers() {
        OneTill x = new OneTill();
        Check.no("seed", x, x.seed(-1), 1);
        Check.no("seed", x, x.seed(65537), 1);
        Check.refused("make", x, x.make(0, 0), 1);
        Check.refused("make", x, x.make(0, 21), 1);
        Check.refused("breaks", x, x.breaks(0, 0, 0), 1);
        Check.refused("breaks", x, x.breaks(0, 0, 9), 1);
        Check.refused("answer", x, x.answer(0, 100), 1);
        Check.refused("late", x, x.late(-1), 1);
        Check.refused("late", x, x.late(100), 1);
    }

    private static void isOnItsOwn() {
        OneTill x = Check.of(Books.SMALL);
        OneTill y = new OneTill();
        Check.due("the other's tills", y.told(0), 0);
        Check.refused("the other's book", y, y.can(0), 1);
        Check.due("the one's trouble", x.trouble(), 0);
        Check.feed(y, "law");
        Check.due("the one's tape", x.told(7), 0);
    }
}
