import java.math.BigInteger;
import java.util.ArrayList;
import java.util.Arrays;
import java.util.HashMap;
import java.util.HashSet;
import java.util.List;
import java.util.Map;
import java.util.Set;
import java.util.TreeSet;

/** All stands of larger books, for which the orders are too many to be written out. */
final class Graph {
    static final int MOST = 6000;

    final List<Oracle.Call> calls;
    final List<boolean[]> dones = new ArrayList<>();
    final List<List<Oracle.Box>> tills = new ArrayList<>();
    final List<int[]> leads = new ArrayList<>();
    final List<int[]> answers = new ArrayList<>();
    boolean over = false;

    private Graph(List<Oracle.Call> calls) {
        this.calls = calls;
    }

    /** The stands; over if there are more than the limit. */
    static Graph of(Oracle o, List<Oracle.Call> cs, int kind, int minutes, Set<Integer> free) {
        Graph g = new Graph(cs);
        Map<String, Integer> seen = new HashMap<>();
        g.dones.add(new boolean[cs.size()]);
        g.tills.add(o.boxes());
        seen.put(Arrays.toString(g.dones.get(0)) + g.tills.get(0), 0);
        for (int s = 0; s < g.dones.size(); s++) {
            int[] lead = new int[cs.size()];
            int[] says = new int[cs.size()];
            Arrays.fill(lead, -1);
            for (int c = 0; c < cs.size(); c++) {
                if (!g.may(s, c, kind, minutes)) {
                    continue;
                }
                Oracle.Call call = cs.get(c);
                List<Oracle.Box> next = Oracle.copy(g.tills.get(s));
                says[c] = next.get(call.till).does(call.act, call.whole);
                if (!call.open() && !free.contains(c) && says[c] != call.told) {
                    continue;
                }
                boolean[] done = g.dones.get(s).clone();
                done[c] = true;
                String key = Arrays.toString(done) + next;
                if (!seen.containsKey(key)) {
                    seen.put(key, g.dones.size());
                    g.dones.add(done);
                    g.tills.add(next);
                }
                lead[c] = seen.get(key);
            }
            g.leads.add(lead);
            g.answers.add(says);
            if (g.dones.size() > MOST) {
                g.over = true;
                return g;
            }
        }
        return g;
    }

    private boolean may(int s, int c, int kind, int minutes) {
        boolean[] done = dones.get(s);
        if (done[c]) {
            return false;
        }
        for (int a = 0; a < calls.size(); a++) {
            if (a != c && !done[a] && Oracle.must(calls, a, c, kind, minutes)) {
                return false;
            }
        }
        return true;
    }

    private boolean isEnd(int s) {
        for (int c = 0; c < calls.size(); c++) {
            if (!calls.get(c).open() && !dones.get(s)[c]) {
                return false;
            }
        }
        return true;
    }

    /** How many orders there are behind each stand. */
    BigInteger[] ways() {
        BigInteger[] ways = new BigInteger[dones.size()];
        for (int s = dones.size() - 1; s >= 0; s--) {
            ways[s] = isEnd(s) ? BigInteger.ONE : BigInteger.ZERO;
            for (int r : leads.get(s)) {
                if (r >= 0) {
                    ways[s] = ways[s].add(ways[r]);
                }
            }
        }
        return ways;
    }

    long orders() {
        return over ? -1 : ways()[0].min(BigInteger.TEN.pow(18)).longValueExact();
    }

    int ends() {
        Set<String> ways = new HashSet<>();
        for (int s = 0; s < dones.size(); s++) {
            if (isEnd(s)) {
                ways.add(tills.get(s).toString());
            }
        }
        return ways.size();
    }

    List<Integer> first() {
        BigInteger[] ways = ways();
        List<Integer> path = new ArrayList<>();
        int s = 0;
        if (ways[0].signum() == 0) {
            return null;
        }
        while (!isEnd(s)) {
            int c = 0;
            while (leads.get(s)[c] < 0 || ways[leads.get(s)[c]].signum() == 0) {
                c++;
            }
            path.add(c);
            s = leads.get(s)[c];
        }
        return path;
    }

    int firsts() {
        BigInteger[] ways = ways();
        int bits = 0;
        for (int c = 0; c < calls.size(); c++) {
            int r = leads.get(0)[c];
            bits |= r >= 0 && ways[r].signum() > 0 ? 1 << c : 0;
        }
        return bits;
    }

    TreeSet<Integer> could(int call) {
        BigInteger[] ways = ways();
        TreeSet<Integer> could = new TreeSet<>();
        for (int s = 0; s < dones.size(); s++) {
            int r = leads.get(s)[call];
            if (r >= 0 && ways[r].signum() > 0) {
                could.add(answers.get(s)[call]);
            }
        }
        return could;
    }
}
