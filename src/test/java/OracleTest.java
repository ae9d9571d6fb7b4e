import java.util.List;
import java.util.Random;
import java.util.TreeSet;

/** Promises 6 to 23: small books by chance, all answers against every order written out. */
public final class OracleTest {
    public static void main(String[] args) {
        Random r = new Random(20261118);
        for (int i = 0; i < 1200 && !Check.wentWrong(); i++) {
            Oracle o = Oracle.random(r, i % 20 == 0 ? 7 : 6, 1 + r.nextInt(6));
            OneTill x = Check.of(o.text());
            all(x, o, o.text() + " ");
        }
        for (int i = 0; i < 400 && !Check.wentWrong(); i++) {
            Oracle o = Oracle.random(r, 0, 2);
            OneTill x = Check.of(o.text());
            o.seed = r.nextInt(65537);
            int machine = r.nextInt(3);
            int n = 1 + r.nextInt(i % 4 == 0 ? 20 : 5);
            String what = o.text() + " seed " + o.seed + " machine " + machine + " n " + n + ": ";
            Check.due(what + "seed", x.seed((int) o.seed), true);
            o.make(machine, n);
            Check.fine(what + "make", x, x.make(machine, n), o.lastMinute);
            same(x, o, what);
            if (n <= 5) {
                all(x, o, what);
            }
        }
        breaks(r);
        Check.end();
    }

    static void same(OneTill x, Oracle o, String what) {
        Check.due(what + "told(2)", x.told(2), o.calls.size());
        Check.due(what + "told(5)", x.told(5), o.seed);
        for (int c = 0; c < o.calls.size(); c++) {
            Oracle.Call call = o.calls.get(c);
            int[] due = {call.cashier, call.till, call.act, call.whole, call.begin, call.end, call.told};
            for (int w = 0; w < 7; w++) {
                Check.fine(what + "call(" + c + "," + w + ")", x, x.call(c, w), due[w]);
            }
        }
    }

    static void all(OneTill x, Oracle o, String text) {
        int n = o.calls.size();
        for (int kind = 0; kind <= 3; kind++) {
            String what = text + "kind " + kind + " ";
            long count = o.count(kind);
            Check.fine(what + "orders", x, x.orders(kind), count);
            Check.fine(what + "can", x, x.can(kind), count > 0 ? 1 : 0);
            if (kind < 3) {
                ofKind(x, o, kind, what);
            }
        }
        for (int t = 0; t < o.kinds.length; t++) {
            boolean is = !o.orders(o.callsOf(t), 0, 0, java.util.Set.of()).isEmpty();
            Check.fine(text + "each " + t, x, x.each(t), is ? 1 : 0);
        }
        if (o.orders(0).isEmpty()) {
            Check.fine(text + "mends", x, x.mends(), o.mends());
        } else {
            Check.refused(text + "mends", x, x.mends(), 5);
        }
        if (n <= 5) {
            Check.fine(text + "enough", x, x.enough(), o.enough());
        }
    }

    private static void ofKind(OneTill x, Oracle o, int kind, String what) {
        int n = o.calls.size();
        List<Oracle.Order> orders = o.orders(kind);
        Check.fine(what + "stands", x, x.stands(kind), o.stands(kind));
        Check.fine(what + "ends", x, x.ends(kind), o.ends(kind));
        List<Integer> first = Oracle.first(orders);
        if (first == null) {
            Check.refused(what + "size", x, x.size(kind), 6);
            Check.refused(what + "order", x, x.order(kind, 0), 6);
        } else {
            Check.fine(what + "size", x, x.size(kind), first.size());
            for (int i = 0; i < first.size(); i++) {
                Check.fine(what + "order " + i, x, x.order(kind, i), first.get(i));
            }
            Check.refused(what + "order", x, x.order(kind, first.size()), 1);
        }
        int firsts = 0;
        for (Oracle.Order order : orders) {
            firsts |= order.seq.isEmpty() ? 0 : 1 << order.seq.get(0);
        }
        Check.fine(what + "firsts", x, x.firsts(kind), firsts);
        for (int a = 0; a < n; a++) {
            for (int b = 0; b < n; b++) {
                ahead(x, orders, kind, a, b, what);
            }
            could(x, o.could(kind, a), kind, a, what);
        }
        Check.fine(what + "bad", x, x.bad(kind), o.bad(kind));
        Check.fine(what + "core", x, x.core(kind), o.core(kind));
    }

    private static void ahead(OneTill x, List<Oracle.Order> orders, int kind, int a, int b, String what) {
        if (a == b) {
            Check.refused(what + "ahead itself", x, x.ahead(kind, a, b), 1);
            return;
        }
        int is = 0;
        for (Oracle.Order o : orders) {
            int i = o.seq.indexOf(a);
            int j = o.seq.indexOf(b);
            is = i >= 0 && j >= 0 && i < j ? 1 : is;
        }
        Check.fine(what + "ahead " + a + " " + b, x, x.ahead(kind, a, b), is);
    }

    private static void could(OneTill x, TreeSet<Integer> answers, int kind, int c, String what) {
        Check.fine(what + "could " + c, x, x.could(kind, c), answers.size());
        if (answers.isEmpty()) {
            Check.refused(what + "couldTell least " + c, x, x.couldTell(kind, c, false), 6);
            Check.refused(what + "couldTell most " + c, x, x.couldTell(kind, c, true), 6);
        } else {
            Check.fine(what + "couldTell least " + c, x, x.couldTell(kind, c, false), answers.first());
            Check.fine(what + "couldTell most " + c, x, x.couldTell(kind, c, true), answers.last());
        }
    }

    private static void breaks(Random r) {
        for (int i = 0; i < 60 && !Check.wentWrong(); i++) {
            Oracle o = Oracle.random(r, 3, 2);
            OneTill x = Check.of(o.text());
            int machine = r.nextInt(3);
            int kind = r.nextInt(4);
            int n = 1 + r.nextInt(5);
            Oracle made = new Oracle();
            made.kinds = o.kinds;
            made.cashiers = o.cashiers;
            made.late = o.late;
            int due = -2;
            for (int s = 0; s <= 99 && due < 0; s++) {
                made.seed = s;
                made.make(machine, n);
                due = made.count(kind) == 0 ? s : due;
            }
            x.seed(4711);
            o.seed = 4711;
            String what = o.text() + " breaks(" + kind + "," + machine + "," + n + ") ";
            Check.fine(what, x, x.breaks(kind, machine, n), due);
            same(x, o, what);
        }
    }
}
