import java.util.ArrayList;
import java.util.HashSet;
import java.util.List;
import java.util.Random;
import java.util.Set;
import java.util.TreeSet;

/** The 6,000 stands: what is refused by 3, and what is answered below it, of larger books. */
public final class LimitsTest {
    /** 6,000 stands and 6,001 stands of OWN. */
    private static final String JUST = "law late 2;till p is queue;till q is counter;till r is drawer;cashier a,b,c,d;"
            + "call a r put2 from0to0told0;call a r put8 from1to1told0;call d p put2 from0to0told1;"
            + "call c p put0 from0to0told1;call c p put6 from1to1told1;call d q put from1to1told1;"
            + "call b r put6 from0to0told0;call d r put6 from2to2told0;call b q put from1to1told2;"
            + "call a p put1 from2to2told1;call a p put9 from3to3told1;call c r put7 from2to2told0;"
            + "call c q put from3to3told3;call b q put from2to2told4;call b p put9 from3to3told1;"
            + "call d q put from3to3told5;call d p put2 from4to4told0;call a r put8 from4to4told0;"
            + "call d p take from5to5told3;call b r put0 from4to4told0";
    private static final String ONE_MORE = "law late 1;till p is queue;till q is drawer;cashier a,b,c,d;"
            + "call a p put6 from0to0told1;call a p put2 from1to1told1;call c p put4 from0to0told1;"
            + "call b q put4 from0to0told0;call a q put3 from2to2told0;call b p put2 from1to1told1;"
            + "call b q put3 from2to2told0;call a p put8 from3to3told1;call d p take from0to0told7;"
            + "call b q put2 from3to3told0;call b p put1 from4to4told1;call c q put5 from1to1told0;"
            + "call c p put2 from2to2told1;call d q put9 from1to1told0;call b q put5 from5to5told0;"
            + "call d q put7 from2to2told0";

    public static void main(String[] args) {
        edge();
        each();
        core();
        early();
        Random r = new Random(77);
        for (int i = 0; i < 60 && !Check.wentWrong(); i++) {
            Oracle o = large(r);
            if (o.text().length() <= 900) {
                look(Check.of(o.text()), o, o.text() + " ", r);
            }
        }
        Check.end();
    }

    private static void edge() {
        OneTill x = Check.of(JUST);
        Check.fine("6,000 stands", x, x.stands(1), 6000);
        Check.fine("can at 6,000", x, x.can(1), 1);
        x = Check.of(ONE_MORE);
        Check.refused("6,001 stands", x, x.stands(1), 3);
        Check.refused("can at 6,001", x, x.can(1), 3);
        Check.refused("orders at 6,001", x, x.orders(1), 3);
        Check.refused("size at 6,001", x, x.size(1), 3);
        Check.refused("order at 6,001", x, x.order(1, 0), 3);
        Check.refused("ends at 6,001", x, x.ends(1), 3);
        Check.refused("firsts at 6,001", x, x.firsts(1), 3);
        Check.refused("ahead at 6,001", x, x.ahead(1, 0, 1), 3);
        Check.refused("bad at 6,001", x, x.bad(1), 3);
        Check.refused("core of 16", x, x.core(1), 3);
        Check.refused("could at 6,001", x, x.could(1, 0), 3);
        Check.refused("couldTell at 6,001", x, x.couldTell(1, 0, true), 3);
        Check.due("stands ONE", x.stands(0) > 0, true);
    }

    /** A queue alone may have too many stands, while the other till has few. */
    private static void each() {
        String calls = "call a p put3 from0to11told1;call b p put0 from3to14told1;call c p put1 from6to17told1;"
                + "call d p put6 from9to20told1;call a p put3 from12to23told1;call b p put7 from15to26told1;"
                + "call c p put8 from18to29told0;call d p put7 from21to32told0;call a p put4 from24to35told0;"
                + "call b p take from27to38told1;call c p put6 from30to41told0;call d p put4 from33to44told0;"
                + "call a p take from36to47told4;call b p put2 from39to50told1;call c p put8 from42to53told1;"
                + "call d p put9 from45to56told0;call a p put1 from48open;call b p take from51open;"
                + "call c p put9 from54open;call d p put0 from57open";
        OneTill x = Check.of("law late 0;till p is queue;till q is set;cashier a,b,c,d;" + calls);
        Check.refused("each, too many stands", x, x.each(0), 3);
        Check.fine("each of the other till", x, x.each(1), 1);
        Check.refused("can EACH", x, x.can(3), 3);
        Check.refused("orders EACH", x, x.orders(3), 3);
    }

    private static void core() {
        StringBuilder b = new StringBuilder("law late 0;till p is queue;cashier a,b,c,d");
        for (int i = 0; i < 12; i++) {
            b.append(";call ").append((char) ('a' + i % 4)).append(" p put ").append(i % 10);
            b.append(" from ").append(i / 4).append(" to ").append(i / 4).append(" told 1");
        }
        OneTill x = Check.of(b.toString());
        Check.fine("no order", x, x.can(1), 0);
        Check.refused("core: too many stands if all answers are anything", x, x.core(1), 3);
        x.lose(11);
        x.lose(10);
        x.lose(9);
        x.lose(8);
        Check.refused("core of eight puts", x, x.core(1), 3);
        x.lose(7);
        Check.fine("seven puts that all found room", x, x.can(1), 0);
        Check.fine("core: three of seven don't do", x, x.core(1), -3);
        StringBuilder more = new StringBuilder("law late 0;till p is counter;cashier a");
        for (int i = 0; i < 13; i++) {
            more.append(";call a p see from ").append(i).append(" to ").append(i).append(" told 0");
        }
        x = Check.of(more.toString());
        Check.refused("core of 13 that have an order", x, x.core(0), 3);
        x.lose(3);
        Check.fine("core of 12 that have an order", x, x.core(0), -2);
        x.answer(11, 4);
        Check.fine("core of 12", x, x.core(0), 1 << 11);
        x.answer(2, 4);
        Check.fine("core of least bits", x, x.core(0), 1 << 2);
    }

    /** An end that nothing mends comes before the ends of which there are too many stands. */
    private static void early() {
        OneTill x = Check.of(ONE_MORE);
        Check.refused("bad of all", x, x.bad(1), 3);
        Check.due("answer", x.answer(0, 9), 1);
        Check.fine("bad: the first end, all others open", x, x.bad(1), 0);
    }

    static Oracle large(Random r) {
        Oracle o = new Oracle();
        o.kinds = new int[1 + r.nextInt(3)];
        for (int t = 0; t < o.kinds.length; t++) {
            o.kinds[t] = r.nextInt(5);
        }
        o.cashiers = 2 + r.nextInt(3);
        o.late = r.nextInt(6);
        int wide = 1 + r.nextInt(8);
        int lies = 3 + r.nextInt(60);
        int n = 8 + r.nextInt(13);
        int[] free = new int[o.cashiers];
        boolean[] stuck = new boolean[o.cashiers];
        List<Oracle.Box> boxes = o.boxes();
        for (int i = 0; i < n; i++) {
            int k = r.nextInt(o.cashiers);
            if (stuck[k]) {
                continue;
            }
            Oracle.Call c = new Oracle.Call();
            c.cashier = k;
            c.till = r.nextInt(o.kinds.length);
            int[] acts = Oracle.actsOf(o.kinds[c.till]);
            c.act = r.nextInt(3) > 0 ? acts[0] : acts[r.nextInt(acts.length)];
            c.whole = Oracle.hasWhole(o.kinds[c.till], c.act) ? r.nextInt(10) : 0;
            c.begin = free[k] + r.nextInt(wide);
            int answer = boxes.get(c.till).does(c.act, c.whole);
            if (r.nextInt(15) == 0) {
                stuck[k] = true;
            } else {
                c.end = c.begin + r.nextInt(wide);
                c.told = r.nextInt(lies) == 0 ? r.nextInt(4) : answer;
                free[k] = c.end + 1;
            }
            o.calls.add(c);
        }
        return o;
    }

    private static void look(OneTill x, Oracle o, String text, Random r) {
        for (int kind = 0; kind <= 2; kind++) {
            ofKind(x, o, kind, text + "kind " + kind + " ", r);
        }
        long product = 1;
        for (int t = 0; t < o.kinds.length; t++) {
            long n = Graph.of(o, o.callsOf(t), 0, 0, Set.of()).orders();
            Check.due(text + "each " + t, x.each(t), n < 0 ? -1 : n > 0 ? 1 : 0);
            product = product < 0 || n < 0 ? -1 : product * n;
        }
        Check.due(text + "orders EACH", x.orders(3), product);
        Check.due(text + "enough", x.enough(), enough(o));
        Check.due(text + "mends", x.mends(), mends(o));
    }

    private static void ofKind(OneTill x, Oracle o, int kind, String what, Random r) {
        Graph g = Graph.of(o, o.calls, kind, o.late, Set.of());
        Check.due(what + "orders", x.orders(kind), g.orders());
        Check.due(what + "stands", x.stands(kind), g.over ? -1 : g.dones.size());
        Check.due(what + "ends", x.ends(kind), g.over ? -1 : g.ends());
        Check.due(what + "firsts", x.firsts(kind), g.over ? -1 : g.firsts());
        List<Integer> first = g.over ? null : g.first();
        Check.due(what + "size", x.size(kind), first == null ? -1 : first.size());
        for (int i = 0; first != null && i < first.size(); i++) {
            Check.due(what + "order", x.order(kind, i), first.get(i));
        }
        Check.due(what + "bad", x.bad(kind), bad(o, kind));
        Check.due(what + "core", x.core(kind), core(o, kind));
        if (!o.calls.isEmpty()) {
            int c = r.nextInt(o.calls.size());
            Graph freed = Graph.of(o, o.calls, kind, o.late, Set.of(c));
            TreeSet<Integer> could = freed.over ? null : freed.could(c);
            Check.due(what + "could", x.could(kind, c), could == null ? -1 : could.size());
            boolean none = could == null || could.isEmpty();
            Check.due(what + "couldTell", x.couldTell(kind, c, true), none ? -1 : could.last());
        }
    }

    private static int bad(Oracle o, int kind) {
        List<Integer> ended = new ArrayList<>();
        for (int c = 0; c < o.calls.size(); c++) {
            if (!o.calls.get(c).open()) {
                ended.add(c);
            }
        }
        ended.sort((i, j) -> o.calls.get(i).end != o.calls.get(j).end ? o.calls.get(i).end - o.calls.get(j).end : i - j);
        for (int i = 0; i < ended.size(); i++) {
            List<Oracle.Call> there = new ArrayList<>();
            for (int c = 0; c < o.calls.size(); c++) {
                Oracle.Call copy = o.calls.get(c).copy();
                copy.end = ended.indexOf(c) > i ? -2 : copy.end;
                if (copy.begin <= o.calls.get(ended.get(i)).end) {
                    there.add(copy);
                }
            }
            long n = Graph.of(o, there, kind, o.late, Set.of()).orders();
            if (n <= 0) {
                return n < 0 ? -1 : ended.get(i);
            }
        }
        return -2;
    }

    private static int core(Oracle o, int kind) {
        int n = o.calls.size();
        Set<Integer> all = new HashSet<>();
        for (int c = 0; c < n; c++) {
            all.add(c);
        }
        if (n > 12 || Graph.of(o, o.calls, kind, o.late, all).over) {
            return -1;
        }
        if (Graph.of(o, o.calls, kind, o.late, Set.of()).orders() > 0) {
            return -2;
        }
        for (int size = 1; size <= 3; size++) {
            for (int bits = 1; bits < 1 << n; bits++) {
                if (Integer.bitCount(bits) != size) {
                    continue;
                }
                boolean ended = true;
                Set<Integer> free = new HashSet<>(all);
                for (int c = 0; c < n; c++) {
                    if ((bits >> c & 1) == 1) {
                        free.remove(c);
                        ended &= !o.calls.get(c).open();
                    }
                }
                if (ended && Graph.of(o, o.calls, kind, o.late, free).orders() == 0) {
                    return bits;
                }
            }
        }
        return -3;
    }

    private static int enough(Oracle o) {
        for (int m = 0; m <= 99; m++) {
            long n = Graph.of(o, o.calls, 2, m, Set.of()).orders();
            if (n != 0) {
                return n < 0 ? -1 : m;
            }
        }
        return -2;
    }

    private static int mends(Oracle o) {
        if (Graph.of(o, o.calls, 0, 0, Set.of()).orders() != 0) {
            return -1;
        }
        int bits = 0;
        for (int c = 0; c < o.calls.size(); c++) {
            if (!o.calls.get(c).open()) {
                List<Oracle.Call> moved = new ArrayList<>();
                for (Oracle.Call call : o.calls) {
                    moved.add(call.copy());
                }
                moved.get(c).end = 1000000;
                long n = Graph.of(o, moved, 0, 0, Set.of()).orders();
                if (n < 0) {
                    return -1;
                }
                bits |= n > 0 ? 1 << c : 0;
            }
        }
        return bits;
    }
}
