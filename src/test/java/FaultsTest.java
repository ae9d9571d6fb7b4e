import java.util.ArrayList;
import java.util.HashMap;
import java.util.List;
import java.util.Map;
import java.util.Random;
import java.util.regex.Matcher;
import java.util.regex.Pattern;

/** Promises 3, 4, 5: what texts are books, and the faults of the others. */
public final class FaultsTest {
    private static final String HEAD = "law late 7;till d is drawer;till q is queue;till s is set;cashier a,b;";
    private static final String TAIL = "law late 7;till c is counter;till p is purses;cashier a,b;";

    public static void main(String[] args) {
        forms();
        names();
        bounds();
        rooms();
        books();
        chance();
        Check.end();
    }

    private static void fault(String text, int number, int place) {
        OneTill x = new OneTill();
        Check.due(text + " book", Check.book(x, text), -1);
        Check.due(text + " trouble", x.trouble(), 4);
        Check.due(text + " fault", x.fault(), number);
        Check.due(text + " where", x.where(), place);
        Check.due(text + " tape", x.told(7), 0);
        Check.due(text + " calls", x.told(2), 0);
        Check.due(text + " no book", x.can(0), -1);
    }

    private static void good(String text, int calls) {
        OneTill x = new OneTill();
        Check.fine(text + " book", x, Check.book(x, text), calls);
        Check.due(text + " fault", x.fault(), 0);
        Check.due(text + " where", x.where(), -1);
    }

    /** The fault's place is behind the head by so much. */
    private static void after(String head, String text, int number, int behind) {
        fault(head + text, number, head.length() + behind);
    }

    private static void forms() {
        fault("", 1, 0);
        fault("   ", 1, 3);
        fault(";", 1, 0);
        fault("law", 1, 3);
        fault("law ", 1, 4);
        fault("law late", 1, 8);
        fault("law soon 5", 1, 4);
        fault("law late five", 1, 9);
        fault("law late 5;", 1, 11);
        fault("law late 5;;", 1, 11);
        fault("law late 5 till t is set", 1, 11);
        fault("law late 5,", 1, 10);
        fault("law late 1234", 1, 9);
        fault("law latelatela 5", 1, 4);
        fault("lawlate 5", 1, 0);
        fault("Law late 5", 1, 0);
        fault("law Late 5", 1, 4);
        fault("law late 5.", 1, 10);
        fault("law late -5", 1, 9);
        fault("law late 5\n;till t is set", 1, 10);
        fault("law late 5" + (char) 0, 1, 10);
        fault("law late 5" + (char) 255 + ";till", 1, 10);
        fault("till law is set", 1, 5);
        fault("till till is set", 1, 5);
        fault("till cashier is set", 1, 5);
        fault("till call is set", 1, 5);
        fault("till from is set", 1, 5);
        fault("till 5 is set", 1, 5);
        fault("till abcdefghi is set", 1, 5);
        fault("till t was set", 1, 7);
        fault("till t is sets", 1, 10);
        fault("till t is", 1, 9);
        fault("till t is set,", 1, 13);
        fault("cashier", 1, 7);
        fault("cashier ,", 1, 8);
        fault("cashier a,", 1, 10);
        fault("cashier a,,", 1, 10);
        fault("cashier a b", 1, 10);
        fault("cashier a,law", 1, 10);
        callForms();
    }

    private static void callForms() {
        after(HEAD, "call", 1, 4);
        after(HEAD, "call from", 1, 5);
        after(HEAD, "call 1", 1, 5);
        after(HEAD, "call a", 1, 6);
        after(HEAD, "call a call", 1, 7);
        after(HEAD, "call a d", 1, 8);
        after(HEAD, "call a d take", 1, 9);
        after(HEAD, "call a d see 1", 1, 13);
        after(HEAD, "call a d put from", 1, 13);
        after(HEAD, "call a q see", 1, 9);
        after(HEAD, "call a q take 1", 1, 14);
        after(HEAD, "call a q put from", 1, 13);
        after(HEAD, "call a s see from", 1, 13);
        after(HEAD, "call a s take from", 1, 14);
        after(HEAD, "call a s put from", 1, 13);
        after(TAIL, "call a c put 1", 1, 13);
        after(TAIL, "call a c take 1", 1, 14);
        after(TAIL, "call a c see 1", 1, 13);
        after(TAIL, "call a p put from", 1, 13);
        after(TAIL, "call a p take from", 1, 14);
        after(TAIL, "call a p see 1", 1, 13);
        after(HEAD, "call a d see to", 1, 13);
        after(HEAD, "call a d see from to", 1, 18);
        after(HEAD, "call a d see from 1 told", 1, 20);
        after(HEAD, "call a d see from 1", 1, 19);
        after(HEAD, "call a d see from 1 to 2", 1, 24);
        after(HEAD, "call a d see from 1 to 2 open", 1, 25);
        after(HEAD, "call a d see from 1 to 2 told", 1, 29);
        after(HEAD, "call a d see from 1 to 2 told x", 1, 30);
        after(HEAD, "call a d see from 1 to open", 1, 23);
        after(HEAD, "call a d see from 1 open told 1", 1, 25);
        after(HEAD, "call a d see from 1 to 2 told 1 call", 1, 32);
    }

    private static void names() {
        after(HEAD, "call x d see", 2, 5);
        after(HEAD, "call d d see", 2, 5);
        after(HEAD, "call is d see", 2, 5);
        after(HEAD, "call a x see", 2, 7);
        after(HEAD, "call a b see", 2, 7);
        after(HEAD, "call a a see", 2, 7);
        fault("call a t put", 2, 5);
        fault("cashier a;call a t put;till t is set", 2, 17);
        fault("till t is set;till t is set", 3, 19);
        fault("till t is set;cashier t", 3, 22);
        fault("cashier t;till t is set", 3, 15);
        fault("cashier a,b,a", 3, 12);
        fault("cashier a;cashier a", 3, 18);
        fault("cashier a,b,c,d,a", 3, 16);
        fault("law late 1;till t is set;law late 2", 3, 25);
        fault("law late 1;law", 3, 11);
        fault("till ab is set;till abc is set;till ab is set", 3, 36);
    }

    private static void bounds() {
        good("law late 99;till t is set;cashier a", 0);
        good("law late 00;till t is set;cashier a", 0);
        fault("law late 100;till", 4, 9);
        after(HEAD, "call a d put 10 from", 4, 13);
        after(HEAD, "call a s see 999 from", 4, 13);
        good(HEAD + "call a d put 009 from 000 to 000 told 099", 1);
        after(HEAD, "call a d put 9 from 999 to 998 told 1", 4, 27);
        good(HEAD + "call a d put 9 from 999 to 999 told 1", 1);
        after(HEAD, "call a d see from 1 to 2 told 100", 4, 30);
        String one = "call a d see from 5 to 7 told 1;";
        after(HEAD + one, "call a q take from 7 open", 4, 19);
        after(HEAD + one, "call a q take from 0 to", 4, 19);
        good(HEAD + one + "call a q take from 8 open", 2);
        good(HEAD + one + "call b q take from 0 open", 2);
        after(HEAD + "call a d see from 5 to 999 told 1;", "call a q take from 999", 4, 19);
        after(HEAD + "call a d see from 5 open;", "call a x", 4, 5);
        after(HEAD + "call a d see from 5 open;", "call b d see from 1 open;call a", 4, 30);
    }

    private static void rooms() {
        fault("till a is set;till b is set;till c is set;till", 5, 42);
        fault("cashier a,b;cashier c,d;cashier e", 5, 32);
        fault("cashier a,b,c,d;cashier from", 1, 24);
        fault("cashier a,b,c,d,", 1, 16);
        StringBuilder b = new StringBuilder(HEAD);
        for (int i = 0; i < 20; i++) {
            b.append("call a d see from ").append(i * 3).append(" to ").append(i * 3 + 1).append(" told 0;");
        }
        good(b.substring(0, b.length() - 1), 20);
        after(b.toString(), "call", 5, 0);
        fault(b.toString(), 1, b.length());
        fault("law late 1", 6, 10);
        fault("law late 1  ", 6, 12);
        fault("law late 1;till t is set", 6, 24);
        fault("law late 1;cashier a", 6, 20);
        fault("till t is set;cashier a", 6, 23);
    }

    private static void books() {
        good("cashier a;till t is set;law late 1", 0);
        good("  cashier  a , b ;till t is set ; law late 1  ", 0);
        good("law late3;till is is drawer;cashier late,to,told;call late is put 1from 2to 3told 0", 1);
        good("till put is set;cashier see,open;law late 1;call see put put1from2open;call open put take1from1open", 2);
        good("law late 1;till abcdefgh is set;cashier abcdefgg;call abcdefgg abcdefgh see 0 from 0 open", 1);
        OneTill x = Check.of(HEAD + "call b s take 4 from 010 to 11 told 5;call a q put 3 from 6 open");
        int[][] due = {{1, 2, 1, 4, 10, 11, 5}, {0, 1, 0, 3, 6, -2, -2}};
        for (int c = 0; c < 2; c++) {
            for (int w = 0; w < 7; w++) {
                Check.fine("call " + c + " " + w, x, x.call(c, w), due[c][w]);
            }
        }
        Check.due("law", x.told(4), 7);
    }

    // ---- texts by chance, against a reader of another make

    private static final class Stop extends RuntimeException {
        private static final long serialVersionUID = 1L;
        final int number;
        final int place;

        Stop(int number, int place) {
            super("stop", null, false, false);
            this.number = number;
            this.place = place;
        }
    }

    private static final Pattern TOKEN = Pattern.compile(" *(?:([a-z]+)|([0-9]+)|(.)|$)", Pattern.DOTALL);

    /** Tokens told by a pattern, one at a time; "" is the end, "?" what is no token. */
    private static final class Slow {
        final String text;
        final Matcher m;
        String token;
        int place;
        final Map<String, Integer> tills = new HashMap<>();
        final Map<String, Integer> cashiers = new HashMap<>();
        final List<int[]> calls = new ArrayList<>();
        int law = -1;

        Slow(String text) {
            this.text = text;
            this.m = TOKEN.matcher(text);
            next();
        }

        void next() {
            if (!m.find()) {
                throw new IllegalStateException("no token in " + text);
            }
            int g = m.group(1) != null ? 1 : m.group(2) != null ? 2 : m.group(3) != null ? 3 : 0;
            token = g == 0 ? "" : m.group(g);
            place = g == 0 ? text.length() : m.start(g);
            boolean bad = g == 1 && token.length() > 8 || g == 2 && token.length() > 3
                    || g == 3 && !token.equals(";") && !token.equals(",");
            token = bad ? "?" : token;
        }

        Stop stop(int number) {
            return new Stop(number, place);
        }

        void word(String w) {
            if (!token.equals(w)) {
                throw stop(1);
            }
            next();
        }

        boolean isWord() {
            return token.matches("[a-z]+");
        }

        String name() {
            if (!isWord() || token.matches("law|till|cashier|call|from")) {
                throw stop(1);
            }
            return token;
        }

        int number(int least, int most) {
            if (!token.matches("[0-9]+")) {
                throw stop(1);
            }
            int v = Integer.parseInt(token);
            if (v < least || v > most) {
                throw stop(4);
            }
            next();
            return v;
        }

        String fresh() {
            String n = name();
            if (tills.containsKey(n) || cashiers.containsKey(n)) {
                throw stop(3);
            }
            return n;
        }

        int known(Map<String, Integer> names) {
            String n = name();
            if (!names.containsKey(n)) {
                throw stop(2);
            }
            return names.get(n);
        }

        void read() {
            while (true) {
                switch (token) {
                    case "law" -> law();
                    case "till" -> till();
                    case "cashier" -> cashier();
                    case "call" -> call();
                    default -> throw stop(1);
                }
                if (token.isEmpty()) {
                    break;
                }
                word(";");
            }
            if (law < 0 || tills.isEmpty() || cashiers.isEmpty()) {
                throw stop(6);
            }
        }

        void law() {
            if (law >= 0) {
                throw stop(3);
            }
            next();
            word("late");
            law = number(0, 99);
        }

        final List<Integer> kinds = new ArrayList<>();

        void till() {
            if (tills.size() == 3) {
                throw stop(5);
            }
            next();
            String n = fresh();
            next();
            word("is");
            int kind = List.of(Oracle.KINDS).indexOf(token);
            if (kind < 0) {
                throw stop(1);
            }
            next();
            tills.put(n, tills.size());
            kinds.add(kind);
        }

        void cashier() {
            do {
                next();
                String n = fresh();
                if (cashiers.size() == 4) {
                    throw stop(5);
                }
                cashiers.put(n, cashiers.size());
                next();
            } while (token.equals(","));
        }

        void call() {
            if (calls.size() == 20) {
                throw stop(5);
            }
            next();
            int k = known(cashiers);
            int ahead = -1;
            for (int[] c : calls) {
                if (c[0] == k) {
                    ahead = c[5];
                }
            }
            if (ahead == -2) {
                throw stop(4);
            }
            next();
            int t = known(tills);
            int kind = kinds.get(t);
            next();
            int act = List.of(Oracle.ACTS).indexOf(token);
            boolean does = false;
            for (int a : Oracle.actsOf(kind)) {
                does |= a == act;
            }
            if (!does) {
                throw stop(1);
            }
            next();
            int whole = Oracle.hasWhole(kind, act) ? number(0, 9) : 0;
            word("from");
            int begin = number(ahead + 1, 999);
            if (token.equals("open")) {
                next();
                calls.add(new int[] {k, t, act, whole, begin, -2, -2});
                return;
            }
            word("to");
            int end = number(begin, 999);
            word("told");
            calls.add(new int[] {k, t, act, whole, begin, end, number(0, 99)});
        }
    }

    private static final String[] BITS = {"law", "late", "till", "is", "cashier", "call", "from", "to", "told", "open",
        "put", "take", "see", "drawer", "queue", "set", "counter", "purses", ";", ",", "a", "b", "p", "q", "x", "0", "9",
        "10", "99", "100", "999", "1000", "abcdefghi", "?", " ", "A", "{", "`", "/", ":", "" + (char) 200};

    private static String spoiled(String text, Random r) {
        StringBuilder b = new StringBuilder(text);
        int at = r.nextInt(b.length() + 1);
        int most = Math.min(b.length() - at, r.nextInt(3) == 0 ? 12 : 2);
        int cut = most > 0 ? r.nextInt(most + 1) : 0;
        b.delete(at, at + cut);
        if (r.nextInt(3) > 0) {
            b.insert(at, (r.nextBoolean() ? " " : "") + BITS[r.nextInt(BITS.length)] + (r.nextBoolean() ? " " : ""));
        }
        return b.length() > 900 ? b.substring(0, 900) : b.toString();
    }

    /** The same words, told in parts that are parted by lines and mixed. */
    private static void chance() {
        Random r = new Random(11);
        for (int i = 0; i < 30000 && !Check.wentWrong(); i++) {
            String text = Oracle.random(r, 8, 4).text();
            if (r.nextInt(6) == 0) {
                String[] lines = text.split(";");
                int p = r.nextInt(lines.length);
                int q = r.nextInt(lines.length);
                String line = lines[p];
                lines[p] = lines[q];
                lines[q] = line;
                text = String.join(";", lines);
            }
            for (int n = r.nextInt(3); n > 0; n--) {
                text = spoiled(text, r);
            }
            same(text);
        }
    }

    private static void same(String text) {
        OneTill x = new OneTill();
        int n = Check.book(x, text);
        Slow slow = new Slow(text);
        try {
            slow.read();
        } catch (Stop s) {
            Check.due(text + " book", n, -1);
            Check.due(text + " fault", x.fault(), s.number);
            Check.due(text + " where", x.where(), s.place);
            return;
        }
        Check.fine(text + " book", x, n, slow.calls.size());
        Check.due(text + " fault", x.fault(), 0);
        Check.due(text + " tills", x.told(0), slow.tills.size());
        Check.due(text + " cashiers", x.told(1), slow.cashiers.size());
        Check.due(text + " law", x.told(4), slow.law);
        for (int c = 0; c < n; c++) {
            for (int w = 0; w < 7; w++) {
                Check.due(text + " call " + c + " " + w, x.call(c, w), slow.calls.get(c)[w]);
            }
        }
    }
}
