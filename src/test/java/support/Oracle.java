import java.util.ArrayDeque;
import java.util.ArrayList;
import java.util.HashSet;
import java.util.List;
import java.util.Random;
import java.util.Set;
import java.util.TreeSet;

/** Says what is due in the slowest way: every order is written out and looked at. */
final class Oracle {
    static final String[] KINDS = {"drawer", "queue", "set", "counter", "purses"};
    static final String[] ACTS = {"put", "take", "see"};

    static final class Call {
        int cashier;
        int till;
        int act;
        int whole;
        int begin;
        int end = -2;
        int told = -2;

        Call copy() {
            Call c = new Call();
            c.cashier = cashier;
            c.till = till;
            c.act = act;
            c.whole = whole;
            c.begin = begin;
            c.end = end;
            c.told = told;
            return c;
        }

        boolean open() {
            return end < 0;
        }
    }

    /** A till of its own making, out of the library's collections. */
    static final class Box {
        final int kind;
        int number;
        int second;
        final ArrayDeque<Integer> queue = new ArrayDeque<>();
        final TreeSet<Integer> set = new TreeSet<>();

        Box(int kind) {
            this.kind = kind;
            if (kind == 4) {
                number = 9;
                second = 9;
            }
        }

        Box copy() {
            Box b = new Box(kind);
            b.number = number;
            b.second = second;
            b.queue.addAll(queue);
            b.set.addAll(set);
            return b;
        }

        public String toString() {
            return number + "/" + second + queue + set;
        }

        int does(int act, int whole) {
            if (kind == 0) {
                if (act == 2) {
                    return number;
                }
                number = whole;
                return 0;
            }
            if (kind == 1) {
                if (act == 0) {
                    if (queue.size() == 6) {
                        return 0;
                    }
                    queue.addLast(whole);
                    return 1;
                }
                return queue.isEmpty() ? 0 : 1 + queue.removeFirst();
            }
            if (kind == 2) {
                if (act == 0) {
                    return set.add(whole) ? 1 : 0;
                }
                if (act == 1) {
                    return set.remove(whole) ? 1 : 0;
                }
                return set.contains(whole) ? 1 : 0;
            }
            if (kind == 3) {
                if (act == 0 && number < 99) {
                    number++;
                }
                if (act == 1 && number > 0) {
                    number--;
                }
                return number;
            }
            if (act == 2) {
                return number;
            }
            if (act == 0) {
                if (number < whole) {
                    return 0;
                }
                number -= whole;
                second += whole;
                return 1;
            }
            if (second < whole) {
                return 0;
            }
            second -= whole;
            number += whole;
            return 1;
        }
    }

    int[] kinds;
    int cashiers;
    int late;
    List<Call> calls = new ArrayList<>();

    static boolean hasWhole(int kind, int act) {
        return kind == 0 && act == 0 || kind == 1 && act == 0 || kind == 2 || kind == 4 && act != 2;
    }

    static int[] actsOf(int kind) {
        return kind == 0 ? new int[] {0, 2} : kind == 1 ? new int[] {0, 1} : new int[] {0, 1, 2};
    }

    String text() {
        StringBuilder b = new StringBuilder("law late " + late);
        for (int t = 0; t < kinds.length; t++) {
            b.append(";till ").append((char) ('p' + t)).append(" is ").append(KINDS[kinds[t]]);
        }
        for (int k = 0; k < cashiers; k++) {
            b.append(k == 0 ? ";cashier " : ",").append((char) ('a' + k));
        }
        for (Call c : calls) {
            b.append(";call ").append((char) ('a' + c.cashier)).append(' ').append((char) ('p' + c.till));
            b.append(' ').append(ACTS[c.act]);
            if (hasWhole(kinds[c.till], c.act)) {
                b.append(c.whole);
            }
            b.append(" from").append(c.begin);
            if (c.open()) {
                b.append("open");
            } else {
                b.append("to").append(c.end).append("told").append(c.told);
            }
        }
        return b.toString();
    }

    List<Box> boxes() {
        List<Box> l = new ArrayList<>();
        for (int k : kinds) {
            l.add(new Box(k));
        }
        return l;
    }

    static List<Box> copy(List<Box> boxes) {
        List<Box> l = new ArrayList<>();
        for (Box b : boxes) {
            l.add(b.copy());
        }
        return l;
    }

    /** Whether call i must come ahead of call j (as the kind tells); minutes of LATE given. */
    static boolean must(List<Call> cs, int i, int j, int kind, int minutes) {
        Call a = cs.get(i);
        Call b = cs.get(j);
        if (a.cashier == b.cashier) {
            return i < j;
        }
        if (a.open() || kind == 1) {
            return false;
        }
        return kind == 2 ? b.begin - a.end > minutes : a.end < b.begin;
    }

    /** An order: its calls, what they answered, the tills behind it. */
    static final class Order {
        final List<Integer> seq = new ArrayList<>();
        final List<Integer> answers = new ArrayList<>();
        String tills;
    }

    /** All orders, if the answers of the calls in free are anything. */
    List<Order> orders(List<Call> cs, int kind, int minutes, Set<Integer> free) {
        List<Order> all = new ArrayList<>();
        grow(cs, kind, minutes, free, new ArrayList<>(), all);
        return all;
    }

    private void grow(List<Call> cs, int kind, int minutes, Set<Integer> free, List<Integer> seq, List<Order> all) {
        boolean whole = true;
        for (int c = 0; c < cs.size(); c++) {
            if (!cs.get(c).open() && !seq.contains(c)) {
                whole = false;
            }
        }
        if (whole) {
            Order o = played(cs, kind, minutes, free, seq);
            if (o != null) {
                all.add(o);
            }
        }
        for (int c = 0; c < cs.size(); c++) {
            if (!seq.contains(c)) {
                seq.add(c);
                grow(cs, kind, minutes, free, seq, all);
                seq.remove(seq.size() - 1);
            }
        }
    }

    private Order played(List<Call> cs, int kind, int minutes, Set<Integer> free, List<Integer> seq) {
        for (int i = 0; i < seq.size(); i++) {
            for (int j = i + 1; j < seq.size(); j++) {
                if (must(cs, seq.get(j), seq.get(i), kind, minutes)) {
                    return null;
                }
            }
        }
        List<Box> boxes = boxes();
        Order o = new Order();
        for (int c : seq) {
            Call call = cs.get(c);
            int a = boxes.get(call.till).does(call.act, call.whole);
            if (!call.open() && !free.contains(c) && a != call.told) {
                return null;
            }
            o.seq.add(c);
            o.answers.add(a);
        }
        o.tills = boxes.toString();
        return o;
    }

    List<Order> orders(int kind) {
        return orders(calls, kind, late, Set.of());
    }

    List<Call> callsOf(int till) {
        List<Call> l = new ArrayList<>();
        for (Call c : calls) {
            if (c.till == till) {
                l.add(c);
            }
        }
        return l;
    }

    long count(int kind) {
        if (kind < 3) {
            return orders(kind).size();
        }
        long n = 1;
        for (int t = 0; t < kinds.length; t++) {
            n *= orders(callsOf(t), 0, 0, Set.of()).size();
        }
        return n;
    }

    static boolean less(List<Integer> a, List<Integer> b) {
        for (int i = 0; i < a.size() && i < b.size(); i++) {
            if (!a.get(i).equals(b.get(i))) {
                return a.get(i) < b.get(i);
            }
        }
        return a.size() < b.size();
    }

    static List<Integer> first(List<Order> orders) {
        List<Integer> best = null;
        for (Order o : orders) {
            if (best == null || less(o.seq, best)) {
                best = o.seq;
            }
        }
        return best;
    }

    /** Every stand, as a text; more than the limit are cut off there. */
    int stands(List<Call> cs, int kind, int minutes, Set<Integer> free, int limit) {
        Set<String> seen = new HashSet<>();
        List<boolean[]> dones = new ArrayList<>();
        List<List<Box>> tills = new ArrayList<>();
        dones.add(new boolean[cs.size()]);
        tills.add(boxes());
        seen.add(java.util.Arrays.toString(dones.get(0)) + tills.get(0));
        for (int s = 0; s < dones.size() && seen.size() <= limit; s++) {
            for (int c = 0; c < cs.size(); c++) {
                boolean may = !dones.get(s)[c];
                for (int a = 0; a < cs.size() && may; a++) {
                    may = a == c || dones.get(s)[a] || !must(cs, a, c, kind, minutes);
                }
                if (!may) {
                    continue;
                }
                Call call = cs.get(c);
                List<Box> next = copy(tills.get(s));
                int answer = next.get(call.till).does(call.act, call.whole);
                if (!call.open() && !free.contains(c) && answer != call.told) {
                    continue;
                }
                boolean[] done = dones.get(s).clone();
                done[c] = true;
                if (seen.add(java.util.Arrays.toString(done) + next)) {
                    dones.add(done);
                    tills.add(next);
                }
            }
        }
        return seen.size();
    }

    int stands(int kind) {
        return stands(calls, kind, late, Set.of(), 20000);
    }

    int ends(int kind) {
        Set<String> ways = new HashSet<>();
        for (Order o : orders(kind)) {
            ways.add(o.tills);
        }
        return ways.size();
    }

    int bad(int kind) {
        List<Integer> ended = new ArrayList<>();
        for (int c = 0; c < calls.size(); c++) {
            if (!calls.get(c).open()) {
                ended.add(c);
            }
        }
        ended.sort((i, j) -> calls.get(i).end != calls.get(j).end ? calls.get(i).end - calls.get(j).end : i - j);
        for (int i = 0; i < ended.size(); i++) {
            int end = calls.get(ended.get(i)).end;
            List<Call> there = new ArrayList<>();
            for (int c = 0; c < calls.size(); c++) {
                Call copy = calls.get(c).copy();
                if (ended.indexOf(c) > i) {
                    copy.end = -2;
                    copy.told = -2;
                }
                if (copy.begin <= end) {
                    there.add(copy);
                }
            }
            if (orders(there, kind, late, Set.of()).isEmpty()) {
                return ended.get(i);
            }
        }
        return -2;
    }

    int core(int kind) {
        if (!orders(kind).isEmpty()) {
            return -2;
        }
        Set<Integer> all = new HashSet<>();
        for (int c = 0; c < calls.size(); c++) {
            all.add(c);
        }
        List<Order> any = orders(calls, kind, late, all);
        for (int size = 1; size <= 3; size++) {
            for (int bits = 1; bits < 1 << calls.size(); bits++) {
                if (Integer.bitCount(bits) == size && isCore(bits, any)) {
                    return bits;
                }
            }
        }
        return -3;
    }

    private boolean isCore(int bits, List<Order> any) {
        for (int c = 0; c < calls.size(); c++) {
            if ((bits >> c & 1) == 1 && calls.get(c).open()) {
                return false;
            }
        }
        for (Order o : any) {
            boolean fits = true;
            for (int i = 0; i < o.seq.size(); i++) {
                int c = o.seq.get(i);
                if ((bits >> c & 1) == 1 && o.answers.get(i) != calls.get(c).told) {
                    fits = false;
                }
            }
            if (fits) {
                return false;
            }
        }
        return true;
    }

    int mends() {
        int bits = 0;
        for (int c = 0; c < calls.size(); c++) {
            if (!calls.get(c).open()) {
                List<Call> moved = new ArrayList<>();
                for (Call call : calls) {
                    moved.add(call.copy());
                }
                moved.get(c).end = 1000000;
                if (!orders(moved, 0, 0, Set.of()).isEmpty()) {
                    bits |= 1 << c;
                }
            }
        }
        return bits;
    }

    int enough() {
        for (int m = 0; m <= 99; m++) {
            if (!orders(calls, 2, m, Set.of()).isEmpty()) {
                return m;
            }
        }
        return -2;
    }

    TreeSet<Integer> could(int kind, int call) {
        TreeSet<Integer> answers = new TreeSet<>();
        for (Order o : orders(calls, kind, late, Set.of(call))) {
            int at = o.seq.indexOf(call);
            if (at >= 0) {
                answers.add(o.answers.get(at));
            }
        }
        return answers;
    }

    // ---- what machines make

    long seed;
    int lastMinute;

    private int draw(int of) {
        seed = (75 * seed + 74) % 65537;
        return (int) (seed % of);
    }

    /** Makes calls by the words of the document. */
    void make(int machine, int n) {
        calls = new ArrayList<>();
        List<List<Box>> tills = new ArrayList<>();
        for (int i = 0; i < 3; i++) {
            tills.add(boxes());
        }
        List<List<Box>> copies = new ArrayList<>();
        Call[] doing = new Call[cashiers];
        Integer[] answer = new Integer[cashiers];
        for (int k = 0; k < cashiers; k++) {
            copies.add(boxes());
        }
        int ended = 0;
        lastMinute = 999;
        for (int minute = 1; minute <= 999; minute++) {
            int k = draw(cashiers);
            if (doing[k] == null) {
                if (calls.size() < n) {
                    Call c = new Call();
                    c.cashier = k;
                    c.till = draw(kinds.length);
                    int[] acts = actsOf(kinds[c.till]);
                    c.act = acts[draw(acts.length)];
                    c.whole = hasWhole(kinds[c.till], c.act) ? draw(10) : 0;
                    c.begin = minute;
                    calls.add(c);
                    doing[k] = c;
                }
            } else if (answer[k] == null) {
                answer[k] = done(machine, doing[k], tills, copies, k);
            } else {
                doing[k].end = minute;
                doing[k].told = answer[k];
                doing[k] = null;
                answer[k] = null;
                ended++;
                if (ended == n) {
                    lastMinute = minute;
                    return;
                }
            }
        }
    }

    private int done(int machine, Call c, List<List<Box>> tills, List<List<Box>> copies, int k) {
        if (machine == 0) {
            return tills.get(0).get(c.till).does(c.act, c.whole);
        }
        if (machine == 1) {
            if (c.act == 2) {
                return copies.get(k).get(c.till).does(c.act, c.whole);
            }
            int a = tills.get(0).get(c.till).does(c.act, c.whole);
            copies.set(k, copy(tills.get(0)));
            return a;
        }
        int not = draw(3);
        Integer first = null;
        for (int i = 0; i < 3; i++) {
            if (i != not && (first == null || c.act != 2)) {
                int a = tills.get(i).get(c.till).does(c.act, c.whole);
                first = first == null ? a : first;
            }
        }
        return first;
    }

    // ---- books by chance (the same ones each time)

    static Oracle random(Random r, int most, int wide) {
        Oracle o = new Oracle();
        o.kinds = new int[1 + r.nextInt(3)];
        for (int t = 0; t < o.kinds.length; t++) {
            o.kinds[t] = r.nextInt(5);
        }
        o.cashiers = 1 + r.nextInt(4);
        o.late = r.nextInt(4);
        int n = r.nextInt(most + 1);
        int[] free = new int[o.cashiers];
        boolean[] stuck = new boolean[o.cashiers];
        List<Box> boxes = o.boxes();
        for (int i = 0; i < n; i++) {
            int k = r.nextInt(o.cashiers);
            if (stuck[k]) {
                continue;
            }
            Call c = new Call();
            c.cashier = k;
            c.till = r.nextInt(o.kinds.length);
            int[] acts = actsOf(o.kinds[c.till]);
            c.act = acts[r.nextInt(acts.length)];
            c.whole = hasWhole(o.kinds[c.till], c.act) ? r.nextInt(3) * (1 + r.nextInt(3)) : 0;
            c.begin = free[k] + r.nextInt(wide);
            int answer = boxes.get(c.till).does(c.act, c.whole);
            if (r.nextInt(8) == 0) {
                stuck[k] = true;
            } else {
                c.end = c.begin + r.nextInt(wide);
                c.told = r.nextInt(4) == 0 ? r.nextInt(4) : answer;
                free[k] = c.end + 1;
            }
            o.calls.add(c);
        }
        return o;
    }
}
