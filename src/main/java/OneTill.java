import java.util.Arrays;
import java.util.NoSuchElementException;

/**
 * Tells of tills, cashiers and their calls, told as a text, whether all calls could have
 * happened one behind the other, and what follows from that.
 */
public final class OneTill {
    /** There is none; refused. */
    public static final int NONE = -1;

    private static final int MOST_TILLS = 3;
    private static final int MOST_CASHIERS = 4;
    private static final int MOST_CALLS = 20;
    private static final int MOST_MARKS = 3;
    private static final int MOST_MINUTES = 99;
    private static final int MOST_ANSWER = 99;
    private static final int MOST_SEED = 65536;
    private static final int MOST_CALLS_TO_BREAK = 8;

    /** The kinds of order. */
    private static final int ONE = 0;
    private static final int OWN = 1;
    private static final int LATE = 2;
    private static final int EACH = 3;

    /** The troubles. */
    private static final int NO_TROUBLE = 0;
    private static final int NONE_SUCH = 1;
    private static final int NUMBER = 2;
    private static final int NO_ROOM = 3;
    private static final int FAULTY = 4;
    private static final int NOT_SO = 5;
    private static final int NONE_THERE = 6;

    /** What stands for an answer that is no number. */
    private static final int OPEN = -2;
    private static final int NEVER = -2;
    private static final int NOT_BY_THREE = -3;
    private static final int OVER = -10;
    private static final int ABSENT = -11;

    private final Shop shop = new Shop();
    private final Calls calls = new Calls();
    private final Calls made = new Calls();
    private final Calls[] marks = new Calls[MOST_MARKS];
    private final int[] markSeeds = new int[MOST_MARKS];
    private final Reader reader = new Reader();
    private final Judge judge = new Judge(shop);
    private final Machine maker = new Machine(shop);
    private int markCount = 0;
    private int seedNow = 0;
    private int lastTrouble = NO_TROUBLE;

    public OneTill() {
        for (int m = 0; m < MOST_MARKS; m++) {
            marks[m] = new Calls();
        }
    }

    // ---- the book

    public int feed(int a, int b, int c, int d, int e) {
        Tape tape = reader.tape;
        if (!tape.hasRoom(20)) {
            return NONE;
        }
        tape.addFour(a);
        tape.addFour(b);
        tape.addFour(c);
        tape.addFour(d);
        tape.addFour(e);
        return tape.fed;
    }

    public int book(int n) {
        if (n < 0 || n > reader.tape.fed) {
            return refused(NUMBER);
        }
        if (!reader.read(n)) {
            return refused(FAULTY);
        }
        shop.takeOver(reader.shop);
        calls.takeOver(reader.calls);
        seedNow = 0;
        markCount = 0;
        return answered(calls.n);
    }

    public int fault() {
        return reader.fault;
    }

    public int where() {
        return lastTrouble == FAULTY ? reader.place : NONE;
    }

    // ---- orders

    public int can(int kind) {
        if (!hasKind(kind, EACH)) {
            return refused(NONE_SUCH);
        }
        long n = judge.countOrders(calls, kind);
        return answered(n < 0 ? OVER : n > 0 ? 1 : 0);
    }

    public long orders(int kind) {
        if (!hasKind(kind, EACH)) {
            return refused(NONE_SUCH);
        }
        long n = judge.countOrders(calls, kind);
        if (n < 0) {
            return refused(NO_ROOM);
        }
        lastTrouble = NO_TROUBLE;
        return n;
    }

    public int size(int kind) {
        return hasKind(kind, LATE) ? answered(judge.findFirst(calls, kind)) : refused(NONE_SUCH);
    }

    public int order(int kind, int i) {
        if (!hasKind(kind, LATE) || i < 0) {
            return refused(NONE_SUCH);
        }
        int n = judge.findFirst(calls, kind);
        if (n < 0) {
            return answered(n);
        }
        return i < n ? answered(judge.pathAt(i)) : refused(NONE_SUCH);
    }

    public int stands(int kind) {
        return hasKind(kind, LATE) ? answered(judge.countStands(calls, kind)) : refused(NONE_SUCH);
    }

    public int ends(int kind) {
        return hasKind(kind, LATE) ? answered(judge.countEnds(calls, kind)) : refused(NONE_SUCH);
    }

    public int firsts(int kind) {
        return hasKind(kind, LATE) ? answered(judge.findFirsts(calls, kind)) : refused(NONE_SUCH);
    }

    public int ahead(int kind, int call, int other) {
        if (!hasKind(kind, LATE) || !calls.has(call) || !calls.has(other) || call == other) {
            return refused(NONE_SUCH);
        }
        return answered(judge.comesAhead(calls, kind, call, other));
    }

    public int each(int till) {
        if (!shop.hasTill(till)) {
            return refused(NONE_SUCH);
        }
        long n = judge.countOrdersOfTill(calls, till);
        return answered(n < 0 ? OVER : n > 0 ? 1 : 0);
    }

    // ---- what can't be

    public int bad(int kind) {
        return hasKind(kind, LATE) ? answered(judge.findBad(calls, kind)) : refused(NONE_SUCH);
    }

    public int core(int kind) {
        return hasKind(kind, LATE) ? answered(judge.findCore(calls, kind)) : refused(NONE_SUCH);
    }

    public int mends() {
        if (!shop.told) {
            return refused(NONE_SUCH);
        }
        long n = judge.countOrders(calls, ONE);
        if (n != 0) {
            return refused(n < 0 ? NO_ROOM : NOT_SO);
        }
        return answered(judge.findMends(calls));
    }

    public int enough() {
        return shop.told ? answered(judge.findEnough(calls)) : refused(NONE_SUCH);
    }

    public int could(int kind, int call) {
        if (!hasKind(kind, LATE) || !calls.has(call)) {
            return refused(NONE_SUCH);
        }
        return answered(judge.findCould(calls, kind, call));
    }

    public int couldTell(int kind, int call, boolean most) {
        if (!hasKind(kind, LATE) || !calls.has(call)) {
            return refused(NONE_SUCH);
        }
        int n = judge.findCould(calls, kind, call);
        if (n <= 0) {
            return answered(n < 0 ? n : ABSENT);
        }
        return answered(most ? judge.greatestCould() : judge.leastCould());
    }

    // ---- machines

    public boolean seed(int v) {
        if (!shop.told) {
            return allowed(NONE_SUCH);
        }
        if (v < 0 || v > MOST_SEED) {
            return allowed(NUMBER);
        }
        seedNow = v;
        return allowed(NO_TROUBLE);
    }

    public int make(int machine, int n) {
        if (!shop.told || !Machine.isOne(machine)) {
            return refused(NONE_SUCH);
        }
        if (n < 1 || n > MOST_CALLS) {
            return refused(NUMBER);
        }
        int minute = maker.run(calls, machine, n, seedNow);
        seedNow = maker.seed;
        return answered(minute);
    }

    public int breaks(int kind, int machine, int n) {
        if (!hasKind(kind, EACH) || !Machine.isOne(machine)) {
            return refused(NONE_SUCH);
        }
        if (n < 1 || n > MOST_CALLS_TO_BREAK) {
            return refused(NUMBER);
        }
        for (int s = 0; s <= 99; s++) {
            maker.run(made, machine, n, s);
            long orders = judge.countOrders(made, kind);
            if (orders <= 0) {
                return answered(orders < 0 ? OVER : s);
            }
        }
        return answered(NEVER);
    }

    // ---- changes

    public int answer(int call, int v) {
        if (!calls.has(call)) {
            return refused(NONE_SUCH);
        }
        if (v < 0 || v > MOST_ANSWER) {
            return refused(NUMBER);
        }
        if (calls.isOpen(call)) {
            return refused(NOT_SO);
        }
        return answered(calls.tellAnother(call, v));
    }

    public boolean lose(int call) {
        if (!calls.has(call)) {
            return allowed(NONE_SUCH);
        }
        calls.drop(call);
        return allowed(NO_TROUBLE);
    }

    public int opens(int cashier) {
        if (!shop.hasCashier(cashier)) {
            return refused(NONE_SUCH);
        }
        int last = calls.lastOf(cashier);
        if (last < 0) {
            return refused(NONE_THERE);
        }
        if (calls.isOpen(last)) {
            return refused(NOT_SO);
        }
        calls.reopen(last);
        return answered(last);
    }

    public int late(int minutes) {
        if (!shop.told) {
            return refused(NONE_SUCH);
        }
        if (minutes < 0 || minutes > MOST_MINUTES) {
            return refused(NUMBER);
        }
        int before = shop.late;
        shop.late = minutes;
        return answered(before);
    }

    public int mark() {
        if (!shop.told) {
            return refused(NONE_SUCH);
        }
        if (markCount >= MOST_MARKS) {
            return refused(NO_ROOM);
        }
        Calls kept = marks[markCount];
        if (kept == null) {
            return refused(NO_ROOM);
        }
        kept.takeOver(calls);
        markSeeds[markCount] = seedNow;
        markCount++;
        return answered(markCount - 1);
    }

    public boolean back(int mark) {
        if (mark < 0 || mark >= markCount || mark >= MOST_MARKS) {
            return allowed(NONE_SUCH);
        }
        Calls kept = marks[mark];
        if (kept == null) {
            return allowed(NONE_SUCH);
        }
        calls.takeOver(kept);
        seedNow = markSeeds[mark];
        return allowed(NO_TROUBLE);
    }

    // ---- what is seen

    public int call(int c, int what) {
        if (!calls.has(c) || what < 0 || what > 6) {
            return refused(NONE_SUCH);
        }
        return answered(calls.seen(c, what));
    }

    public int led(int i) throws NoSuchElementException {
        int c = calls.openAt(i);
        if (c < 0) {
            throw new NoSuchElementException("no such open call");
        }
        return c;
    }

    public int told(int what) {
        switch (what) {
            case 0:
                return shop.tills;
            case 1:
                return shop.cashiers;
            case 2:
                return calls.n;
            case 3:
                return calls.n - Integer.bitCount(calls.endedOnes());
            case 4:
                return shop.late;
            case 5:
                return seedNow;
            case 6:
                return markCount;
            case 7:
                return reader.tape.fed;
            default:
                return NONE;
        }
    }

    public int trouble() {
        return lastTrouble;
    }

    private boolean hasKind(int kind, int last) {
        return shop.told && kind >= ONE && kind <= last;
    }

    private int refused(int why) {
        lastTrouble = why;
        return NONE;
    }

    private boolean allowed(int why) {
        lastTrouble = why;
        return why == NO_TROUBLE;
    }

    /** The judge's OVER and ABSENT are refusals, all else is an answer. */
    private int answered(int answer) {
        if (answer == OVER) {
            return refused(NO_ROOM);
        }
        if (answer == ABSENT) {
            return refused(NONE_THERE);
        }
        lastTrouble = NO_TROUBLE;
        return answer;
    }

    /** What the tills of each kind do. */
    static final class Till {
        static final int DRAWER = 0;
        static final int QUEUE = 1;
        static final int SET = 2;
        static final int COUNTER = 3;
        static final int PURSES = 4;

        static final int PUT = 0;
        static final int TAKE = 1;
        static final int SEE = 2;

        private static final int QUEUE_ROOM = 6;
        private static final int MOST_COUNTED = 99;
        private static final int IN_BOTH_PURSES = 18;

        // A till is one number: what is in a drawer, a counter or the first purse; a bit for
        // each that is in a set; how many are in a queue in the three lowest bits, and above
        // them four bits for each, the first one lowest.

        static int atFirst(int kind) {
            return kind == PURSES ? IN_BOTH_PURSES / 2 : 0;
        }

        static int actCount(int kind) {
            return kind == DRAWER || kind == QUEUE ? 2 : 3;
        }

        static int actAt(int kind, int i) {
            if (i == 0) {
                return PUT;
            }
            return i == 1 && kind != DRAWER ? TAKE : SEE;
        }

        static boolean does(int kind, int act) {
            if (act == TAKE) {
                return kind != DRAWER;
            }
            return act == PUT || (act == SEE && kind != QUEUE);
        }

        static boolean hasWhole(int kind, int act) {
            switch (kind) {
                case DRAWER:
                case QUEUE:
                    return act == PUT;
                case SET:
                    return true;
                case PURSES:
                    return act != SEE;
                default:
                    return false;
            }
        }

        /** What a till answers to an act. */
        static int says(int kind, int till, int act, int whole) {
            switch (kind) {
                case DRAWER:
                    return act == PUT ? 0 : till;
                case QUEUE:
                    if (act == PUT) {
                        return queued(till) < QUEUE_ROOM ? 1 : 0;
                    }
                    return queued(till) > 0 ? 1 + (till >> 3 & 15) : 0;
                case SET:
                    return act == PUT ? 1 - (till >> whole & 1) : till >> whole & 1;
                case COUNTER:
                    return counted(till, act);
                default:
                    if (act == SEE) {
                        return till;
                    }
                    return purse(till, act) >= whole ? 1 : 0;
            }
        }

        /** What a till is behind an act. */
        static int after(int kind, int till, int act, int whole) {
            if (act == SEE) {
                return till;
            }
            int n = queued(till);
            switch (kind) {
                case DRAWER:
                    return whole;
                case QUEUE:
                    if (act == PUT) {
                        return n < QUEUE_ROOM ? till + 1 + (whole << 3 + 4 * n) : till;
                    }
                    return n > 0 ? till >> 7 << 3 | n - 1 : till;
                case SET:
                    return act == PUT ? till | 1 << whole : till & ~(1 << whole);
                case COUNTER:
                    return counted(till, act);
                default:
                    if (purse(till, act) < whole) {
                        return till;
                    }
                    return act == PUT ? till - whole : till + whole;
            }
        }

        private static int queued(int queue) {
            return queue & 7;
        }

        private static int counted(int counter, int act) {
            if (act == PUT) {
                return counter < MOST_COUNTED ? counter + 1 : counter;
            }
            return act == TAKE && counter > 0 ? counter - 1 : counter;
        }

        /** What is in the purse that an act takes from. */
        private static int purse(int till, int act) {
            return act == PUT ? till : IN_BOTH_PURSES - till;
        }
    }

    /** The tills and cashiers that a book tells, and its law. */
    static final class Shop {
        private final int[] kinds = new int[MOST_TILLS];
        boolean told = false;
        int tills = 0;
        int cashiers = 0;
        int late = 0;

        void clear() {
            told = false;
            tills = 0;
            cashiers = 0;
            late = 0;
        }

        void takeOver(Shop other) {
            told = other.told;
            tills = other.tills;
            cashiers = other.cashiers;
            late = other.late;
            System.arraycopy(other.kinds, 0, kinds, 0, MOST_TILLS);
        }

        void addTill(int kind) {
            if (tills < MOST_TILLS) {
                kinds[tills] = kind;
                tills++;
            }
        }

        boolean hasTill(int till) {
            return till >= 0 && till < tills;
        }

        boolean hasCashier(int cashier) {
            return cashier >= 0 && cashier < cashiers;
        }

        int kindOf(int till) {
            return till >= 0 && till < MOST_TILLS ? kinds[till] : Till.DRAWER;
        }
    }

    /** Calls in their order of numbers; one that is open has OPEN for its end and answer. */
    static final class Calls {
        private final int[] cashiers = new int[MOST_CALLS];
        private final int[] tills = new int[MOST_CALLS];
        private final int[] acts = new int[MOST_CALLS];
        private final int[] wholes = new int[MOST_CALLS];
        private final int[] begins = new int[MOST_CALLS];
        private final int[] ends = new int[MOST_CALLS];
        private final int[] answers = new int[MOST_CALLS];
        int n = 0;

        void clear() {
            n = 0;
        }

        void takeOver(Calls other) {
            n = other.n;
            System.arraycopy(other.cashiers, 0, cashiers, 0, MOST_CALLS);
            System.arraycopy(other.tills, 0, tills, 0, MOST_CALLS);
            System.arraycopy(other.acts, 0, acts, 0, MOST_CALLS);
            System.arraycopy(other.wholes, 0, wholes, 0, MOST_CALLS);
            System.arraycopy(other.begins, 0, begins, 0, MOST_CALLS);
            System.arraycopy(other.ends, 0, ends, 0, MOST_CALLS);
            System.arraycopy(other.answers, 0, answers, 0, MOST_CALLS);
        }

        boolean has(int c) {
            return c >= 0 && c < n && c < MOST_CALLS;
        }

        /** Adds an open call, and tells its number. */
        int addOpen(int cashier, int till, int act, int whole, int begin) {
            if (n >= MOST_CALLS) {
                return NONE;
            }
            cashiers[n] = cashier;
            tills[n] = till;
            acts[n] = act;
            wholes[n] = whole;
            begins[n] = begin;
            ends[n] = OPEN;
            answers[n] = OPEN;
            n++;
            return n - 1;
        }

        void close(int c, int end, int answer) {
            if (has(c)) {
                ends[c] = end;
                answers[c] = answer;
            }
        }

        void reopen(int c) {
            close(c, OPEN, OPEN);
        }

        int tellAnother(int c, int answer) {
            int before = answerOf(c);
            close(c, endOf(c), answer);
            return before;
        }

        void drop(int c) {
            if (!has(c)) {
                return;
            }
            dropFrom(cashiers, c);
            dropFrom(tills, c);
            dropFrom(acts, c);
            dropFrom(wholes, c);
            dropFrom(begins, c);
            dropFrom(ends, c);
            dropFrom(answers, c);
            n--;
        }

        private static void dropFrom(int[] row, int c) {
            for (int i = c; i + 1 < row.length; i++) {
                row[i] = row[i + 1];
            }
        }

        private static int at(int[] row, int c) {
            return c >= 0 && c < row.length ? row[c] : 0;
        }

        int cashierOf(int c) {
            return at(cashiers, c);
        }

        int tillOf(int c) {
            return at(tills, c);
        }

        int actOf(int c) {
            return at(acts, c);
        }

        int wholeOf(int c) {
            return at(wholes, c);
        }

        int beginOf(int c) {
            return at(begins, c);
        }

        int endOf(int c) {
            return at(ends, c);
        }

        int answerOf(int c) {
            return at(answers, c);
        }

        boolean isOpen(int c) {
            return endOf(c) == OPEN;
        }

        int seen(int c, int what) {
            switch (what) {
                case 0:
                    return cashierOf(c);
                case 1:
                    return tillOf(c);
                case 2:
                    return actOf(c);
                case 3:
                    return wholeOf(c);
                case 4:
                    return beginOf(c);
                case 5:
                    return endOf(c);
                default:
                    return answerOf(c);
            }
        }

        /** All calls, as bits. */
        int allOnes() {
            return (1 << n) - 1;
        }

        int endedOnes() {
            int ones = 0;
            for (int c = 0; c < n; c++) {
                if (!isOpen(c)) {
                    ones |= 1 << c;
                }
            }
            return ones;
        }

        int onesOfTill(int till) {
            int ones = 0;
            for (int c = 0; c < n; c++) {
                if (tillOf(c) == till) {
                    ones |= 1 << c;
                }
            }
            return ones;
        }

        int onesBegunBy(int minute) {
            int ones = 0;
            for (int c = 0; c < n; c++) {
                if (beginOf(c) <= minute) {
                    ones |= 1 << c;
                }
            }
            return ones;
        }

        /** The first by ends, then numbers, of the ended calls that aren't among those; NONE if all are. */
        int firstEndedBut(int ones) {
            int first = NONE;
            for (int c = 0; c < n; c++) {
                if (!isOpen(c) && (ones >> c & 1) == 0 && (first < 0 || endOf(c) < endOf(first))) {
                    first = c;
                }
            }
            return first;
        }

        int lastOf(int cashier) {
            for (int c = n - 1; c >= 0; c--) {
                if (cashierOf(c) == cashier) {
                    return c;
                }
            }
            return NONE;
        }

        int openAt(int i) {
            int left = i;
            for (int c = 0; c < n; c++) {
                if (isOpen(c)) {
                    if (left == 0) {
                        return c;
                    }
                    left--;
                }
            }
            return NONE;
        }
    }

    /** The bytes that were fed, and the tokens of a text that are the first of them. */
    static final class Tape {
        static final int END = 0;
        static final int WORD = 1;
        static final int WHOLE = 2;
        static final int SEMICOLON = 3;
        static final int COMMA = 4;
        static final int NO_TOKEN = 5;

        private static final int ROOM = 900;
        private static final int MOST_LETTERS = 8;
        private static final int MOST_DIGITS = 3;

        private final int[] bytes = new int[ROOM];
        private int length = 0;
        private int behind = 0;
        int fed = 0;

        /** Of the token that is read: its sort, its first byte's place, its number or its letters as one. */
        int sort = END;
        int place = 0;
        int whole = 0;
        long word = 0;

        boolean hasRoom(int n) {
            return n <= ROOM - fed;
        }

        void addFour(int four) {
            for (int shift = 24; shift >= 0; shift -= 8) {
                if (fed < ROOM) {
                    bytes[fed] = four >> shift & 255;
                    fed++;
                }
            }
        }

        /** The tape is empty from here on; its first bytes stay to be read until it is fed again. */
        void beginText(int n) {
            length = n < 0 ? 0 : Math.min(n, fed);
            behind = 0;
            fed = 0;
            next();
        }

        void next() {
            int i = behind;
            while (i < length && bytes[i] == ' ') {
                i++;
            }
            place = i;
            int first = i < length ? bytes[i] : 0;
            if (i >= length) {
                sort = END;
                behind = i;
            } else if (first >= 'a' && first <= 'z') {
                readWord();
            } else if (first >= '0' && first <= '9') {
                readWhole();
            } else {
                sort = first == ';' ? SEMICOLON : first == ',' ? COMMA : NO_TOKEN;
                behind = i + 1;
            }
        }

        private void readWord() {
            int i = place;
            word = 0;
            while (i < length && bytes[i] >= 'a' && bytes[i] <= 'z') {
                word = word * 32 + (bytes[i] - 'a' + 1);
                i++;
            }
            behind = i;
            sort = i - place <= MOST_LETTERS ? WORD : NO_TOKEN;
        }

        private void readWhole() {
            int i = place;
            whole = 0;
            while (i < length && bytes[i] >= '0' && bytes[i] <= '9') {
                whole = whole * 10 + (bytes[i] - '0');
                i++;
            }
            behind = i;
            sort = i - place <= MOST_DIGITS ? WHOLE : NO_TOKEN;
        }

        boolean is(String told) {
            if (sort != WORD || behind - place != told.length()) {
                return false;
            }
            for (int i = 0; i < told.length(); i++) {
                if (told.charAt(i) != bytes[place + i]) {
                    return false;
                }
            }
            return true;
        }

        boolean isName() {
            return sort == WORD && !is("law") && !is("till") && !is("cashier") && !is("call") && !is("from");
        }
    }

    /** Reads a text, line by line, into a shop and calls of its own, up to its first fault. */
    static final class Reader {
        private static final int FORM = 1;
        private static final int NOT_TOLD = 2;
        private static final int AGAIN = 3;
        private static final int BOUNDS = 4;
        private static final int MANY = 5;
        private static final int LACKS = 6;

        final Tape tape = new Tape();
        final Shop shop = new Shop();
        final Calls calls = new Calls();
        private final long[] tillNames = new long[MOST_TILLS];
        private final long[] cashierNames = new long[MOST_CASHIERS];
        private boolean lawTold = false;
        int fault = 0;
        int place = NONE;

        /** Of the call line that is read. */
        private int cashier = 0;
        private int till = 0;
        private int act = 0;
        private int actWhole = 0;

        boolean read(int n) {
            shop.clear();
            calls.clear();
            lawTold = false;
            fault = 0;
            place = NONE;
            tape.beginText(n);
            // each line has a byte at least, so that there are no more of them than bytes
            for (int i = 0; i <= n; i++) {
                if (!line()) {
                    return false;
                }
                if (tape.sort != Tape.SEMICOLON) {
                    return mayEnd();
                }
                tape.next();
            }
            return faulty(FORM);
        }

        /** Whether the text may end here. */
        private boolean mayEnd() {
            if (tape.sort != Tape.END) {
                return faulty(FORM);
            }
            if (!lawTold || shop.tills == 0 || shop.cashiers == 0) {
                return faulty(LACKS);
            }
            shop.told = true;
            return true;
        }

        private boolean faulty(int number) {
            fault = number;
            place = tape.place;
            return false;
        }

        private boolean line() {
            if (tape.is("law")) {
                return lawLine();
            }
            if (tape.is("till")) {
                return tillLine();
            }
            if (tape.is("cashier")) {
                return cashierLine();
            }
            if (tape.is("call")) {
                return callLine();
            }
            return faulty(FORM);
        }

        /** The word that must stand here; what is behind it is read then. */
        private boolean mustBe(String told) {
            if (!tape.is(told)) {
                return faulty(FORM);
            }
            tape.next();
            return true;
        }

        /** A whole within bounds must stand here. */
        private boolean mustBeWhole(int least, int most) {
            if (tape.sort != Tape.WHOLE) {
                return faulty(FORM);
            }
            return tape.whole >= least && tape.whole <= most || faulty(BOUNDS);
        }

        /** A name that isn't told yet must stand here. */
        private boolean mustBeNew() {
            if (!tape.isName()) {
                return faulty(FORM);
            }
            boolean isTold = find(tillNames, shop.tills) >= 0 || find(cashierNames, shop.cashiers) >= 0;
            return !isTold || faulty(AGAIN);
        }

        private int find(long[] names, int n) {
            for (int i = 0; i < n && i < names.length; i++) {
                if (names[i] == tape.word) {
                    return i;
                }
            }
            return NONE;
        }

        private boolean lawLine() {
            if (lawTold) {
                return faulty(AGAIN);
            }
            tape.next();
            if (!mustBe("late") || !mustBeWhole(0, MOST_MINUTES)) {
                return false;
            }
            lawTold = true;
            shop.late = tape.whole;
            tape.next();
            return true;
        }

        private boolean tillLine() {
            if (shop.tills >= MOST_TILLS) {
                return faulty(MANY);
            }
            tape.next();
            if (!mustBeNew()) {
                return false;
            }
            tillNames[shop.tills] = tape.word;
            tape.next();
            if (!mustBe("is")) {
                return false;
            }
            int kind = kindHere();
            if (kind < 0) {
                return faulty(FORM);
            }
            shop.addTill(kind);
            tape.next();
            return true;
        }

        private int kindHere() {
            if (tape.is("drawer")) {
                return Till.DRAWER;
            }
            if (tape.is("queue")) {
                return Till.QUEUE;
            }
            if (tape.is("set")) {
                return Till.SET;
            }
            if (tape.is("counter")) {
                return Till.COUNTER;
            }
            return tape.is("purses") ? Till.PURSES : NONE;
        }

        /** Each name but the last has a comma behind it; one more than there is room for is a fault. */
        private boolean cashierLine() {
            for (int i = 0; i <= MOST_CASHIERS; i++) {
                tape.next();
                if (!mustBeNew()) {
                    return false;
                }
                if (shop.cashiers >= MOST_CASHIERS) {
                    return faulty(MANY);
                }
                cashierNames[shop.cashiers] = tape.word;
                shop.cashiers++;
                tape.next();
                if (tape.sort != Tape.COMMA) {
                    return true;
                }
            }
            return faulty(MANY);
        }

        private boolean callLine() {
            if (calls.n >= MOST_CALLS) {
                return faulty(MANY);
            }
            tape.next();
            return callCashier() && callTill() && callAct() && callTimes();
        }

        private boolean callCashier() {
            if (!tape.isName()) {
                return faulty(FORM);
            }
            cashier = find(cashierNames, shop.cashiers);
            if (cashier < 0) {
                return faulty(NOT_TOLD);
            }
            int last = calls.lastOf(cashier);
            if (last >= 0 && calls.isOpen(last)) {
                return faulty(BOUNDS);
            }
            tape.next();
            return true;
        }

        private boolean callTill() {
            if (!tape.isName()) {
                return faulty(FORM);
            }
            till = find(tillNames, shop.tills);
            if (till < 0) {
                return faulty(NOT_TOLD);
            }
            tape.next();
            return true;
        }

        private boolean callAct() {
            int kind = shop.kindOf(till);
            act = tape.is("put") ? Till.PUT : tape.is("take") ? Till.TAKE : tape.is("see") ? Till.SEE : NONE;
            if (!Till.does(kind, act)) {
                return faulty(FORM);
            }
            tape.next();
            actWhole = 0;
            if (Till.hasWhole(kind, act)) {
                if (!mustBeWhole(0, 9)) {
                    return false;
                }
                actWhole = tape.whole;
                tape.next();
            }
            return true;
        }

        private boolean callTimes() {
            int last = calls.lastOf(cashier);
            if (!mustBe("from") || !mustBeWhole(last < 0 ? 0 : calls.endOf(last) + 1, 999)) {
                return false;
            }
            int begin = tape.whole;
            tape.next();
            int c = calls.addOpen(cashier, till, act, actWhole, begin);
            if (tape.is("open")) {
                tape.next();
                return true;
            }
            if (!mustBe("to") || !mustBeWhole(begin, 999)) {
                return false;
            }
            int end = tape.whole;
            tape.next();
            if (!mustBe("told") || !mustBeWhole(0, MOST_ANSWER)) {
                return false;
            }
            calls.close(c, end, tape.whole);
            tape.next();
            return true;
        }
    }

    /** Which calls are there, which of them must be done, and which come ahead of which; calls are bits. */
    static final class Rules {
        private static final int NO_GAP = 1000;

        private final int[] ahead = new int[MOST_CALLS];
        private final int[] own = new int[MOST_CASHIERS];
        int there = 0;
        int must = 0;
        /** Those that must answer as they told. */
        int strict = 0;
        /** Those whose ends are told. */
        int timed = 0;

        void takeAll(Calls calls) {
            takeSome(calls.allOnes(), calls.endedOnes());
        }

        void takeSome(int ones, int ended) {
            there = ones;
            must = ones & ended;
            strict = must;
            timed = must;
        }

        static int gapOf(int kind, int late) {
            return kind == OWN ? NO_GAP : kind == LATE ? late : 0;
        }

        /** A call that ended more than so many minutes ahead of another one's begin comes ahead of it. */
        void bind(Calls calls, int gap) {
            Arrays.fill(own, 0);
            for (int c = 0; c < calls.n && c < MOST_CALLS; c++) {
                int cashier = calls.cashierOf(c);
                if ((there >> c & 1) == 1 && cashier >= 0 && cashier < MOST_CASHIERS) {
                    ahead[c] = own[cashier] | endedAhead(calls, c, gap);
                    own[cashier] |= 1 << c;
                }
            }
        }

        private int endedAhead(Calls calls, int c, int gap) {
            int ones = 0;
            for (int a = 0; a < calls.n; a++) {
                if ((timed >> a & 1) == 1 && calls.beginOf(c) - calls.endOf(a) > gap) {
                    ones |= 1 << a;
                }
            }
            return ones;
        }

        /** A cashier's call that may be next behind those done; NONE if there is none. */
        int nextOf(int cashier, int done) {
            if (cashier < 0 || cashier >= MOST_CASHIERS) {
                return NONE;
            }
            int left = own[cashier] & ~done;
            // a cashier's calls come by their numbers: the lowest bit left is the next one
            int c = left == 0 ? NONE : Integer.bitCount((left & -left) - 1);
            return c >= 0 && c < MOST_CALLS && (ahead[c] & ~done) == 0 ? c : NONE;
        }

        boolean isEnd(int done) {
            return (must & ~done) == 0;
        }
    }

    /** The stands that the calls come to, each found once, those behind fewer calls first. */
    static final class Stands {
        private static final int MOST = 6000;
        private static final int ROWS = MOST + 1;
        private static final int SLOTS = 16384;
        private static final int LAST_BASE = 2000000000;
        private static final long MOST_WAYS = 1000000000000000000L;

        /** The calls done, as bits; the tills; the stand that each cashier's next call leads to; all by stands. */
        private final int[] done = new int[ROWS];
        private final int[] tills = new int[MOST_TILLS * ROWS];
        private final int[] leads = new int[MOST_CASHIERS * ROWS];
        private final long[] ways = new long[ROWS];
        private final int[] table = new int[SLOTS];
        private final Shop shop;
        private final Rules rules;
        private Calls calls = new Calls();
        /** What the table holds below it is of an earlier use, and counts as nothing. */
        private int base = 1;
        int count = 0;

        Stands(Shop shop, Rules rules) {
            this.shop = shop;
            this.rules = rules;
        }

        /** Finds all stands; false if there are too many. */
        boolean explore(Calls calls) {
            this.calls = calls;
            forget();
            begin();
            for (int s = 0; s < count && s < MOST; s++) {
                for (int k = 0; k < MOST_CASHIERS; k++) {
                    leads[s * MOST_CASHIERS + k] = leadOn(s, rules.nextOf(k, done[s]));
                }
                if (count > MOST) {
                    return false;
                }
            }
            return true;
        }

        private void forget() {
            if (base > LAST_BASE) {
                Arrays.fill(table, 0);
                base = 1;
            } else {
                base += ROWS;
            }
        }

        private void begin() {
            done[0] = 0;
            for (int t = 0; t < MOST_TILLS; t++) {
                tills[t] = Till.atFirst(shop.kindOf(t));
            }
            find(0, -1);
            count = 1;
        }

        /** The stand that a call leads to, a new one in the row behind the last if need be; NONE if nowhere. */
        private int leadOn(int s, int c) {
            if (c < 0 || count > MOST || isOtherwise(s, c, rules.strict)) {
                return NONE;
            }
            int from = s * MOST_TILLS;
            int to = count * MOST_TILLS;
            for (int t = 0; t < MOST_TILLS; t++) {
                tills[to + t] = tills[from + t];
            }
            int till = calls.tillOf(c);
            if (till >= 0 && till < MOST_TILLS) {
                tills[to + till] = Till.after(shop.kindOf(till), tills[from + till], calls.actOf(c), calls.wholeOf(c));
            }
            done[count] = done[s] | 1 << c;
            int found = find(count, -1);
            if (found == count) {
                count++;
            }
            return found;
        }

        /** The stand like this one, but for the calls done that aren't looked at; this one if it is new. */
        private int find(int s, int looked) {
            int at = s * MOST_TILLS;
            int h = (done[s] & looked) * 0x2C1B3C6D;
            for (int t = 0; t < MOST_TILLS; t++) {
                h = (h ^ h >>> 15 ^ tills[at + t]) * 0x297A2D39;
            }
            int slot = (h ^ h >>> 14) & SLOTS - 1;
            for (int tries = 0; tries < SLOTS; tries++) {
                int r = table[slot] - base;
                if (r < 0 || r >= ROWS) {
                    table[slot] = base + s;
                    return s;
                }
                if (alike(r, s, looked)) {
                    return r;
                }
                slot = slot + 1 & SLOTS - 1;
            }
            return NONE;
        }

        private boolean alike(int r, int s, int looked) {
            if (((done[r] ^ done[s]) & looked) != 0) {
                return false;
            }
            for (int t = 0; t < MOST_TILLS; t++) {
                if (tills[r * MOST_TILLS + t] != tills[s * MOST_TILLS + t]) {
                    return false;
                }
            }
            return true;
        }

        private boolean has(int s) {
            return s >= 0 && s < count && s < ROWS;
        }

        int doneAt(int s) {
            return has(s) ? done[s] : 0;
        }

        /** Where a cashier's next call leads to from a stand; NONE if nowhere. */
        int leadAt(int s, int k) {
            return has(s) && k >= 0 && k < MOST_CASHIERS ? leads[s * MOST_CASHIERS + k] : NONE;
        }

        /** The call by which a stand leads on; NONE if there is none. */
        int callAt(int s, int k) {
            return has(s) ? rules.nextOf(k, done[s]) : NONE;
        }

        /** What a call would answer behind a stand. */
        int answerAt(int s, int c) {
            int till = calls.tillOf(c);
            if (!has(s) || till < 0 || till >= MOST_TILLS) {
                return NONE;
            }
            return Till.says(shop.kindOf(till), tills[s * MOST_TILLS + till], calls.actOf(c), calls.wholeOf(c));
        }

        /** Whether a call, if it is one of the strict ones, would answer otherwise than it told. */
        private boolean isOtherwise(int s, int c, int strict) {
            if ((strict >> c & 1) == 0) {
                return false;
            }
            int till = calls.tillOf(c);
            int state = till >= 0 && till < MOST_TILLS ? tills[s * MOST_TILLS + till] : 0;
            return Till.says(shop.kindOf(till), state, calls.actOf(c), calls.wholeOf(c)) != calls.answerOf(c);
        }

        /** How many orders there are that do those calls; behind each stand they are kept. */
        long countWays(int must) {
            for (int s = count - 1; s >= 0; s--) {
                long n = (must & ~done[s]) == 0 ? 1 : 0;
                for (int k = 0; k < MOST_CASHIERS; k++) {
                    int r = leads[s * MOST_CASHIERS + k];
                    // stands behind more calls have higher numbers, so that theirs are counted by now
                    n += r > s && r < count ? ways[r] : 0;
                }
                ways[s] = Math.min(n, MOST_WAYS);
            }
            return ways[0];
        }

        static long times(long a, long b) {
            if (a <= 0 || b <= 0) {
                return 0;
            }
            return a > MOST_WAYS / b ? MOST_WAYS : a * b;
        }

        boolean leadsToEnd(int s) {
            return has(s) && ways[s] > 0;
        }

        int countEnds() {
            forget();
            int n = 0;
            for (int s = 0; s < count; s++) {
                if (rules.isEnd(done[s]) && find(s, 0) == s) {
                    n++;
                }
            }
            return n;
        }

        /**
         * Of up to 64 sets of calls, told by the sets that each call is in, those for which there
         * is an order in which none of the set answers otherwise than it told.
         */
        long setsThatCan(long[] setsOf, int ended) {
            Arrays.fill(ways, 0L);
            ways[0] = -1L;
            long can = 0L;
            for (int s = 0; s < count; s++) {
                if (rules.isEnd(done[s])) {
                    can |= ways[s];
                }
                for (int k = 0; k < MOST_CASHIERS; k++) {
                    int r = leads[s * MOST_CASHIERS + k];
                    int c = rules.nextOf(k, done[s]);
                    if (r >= 0 && r < count && c >= 0 && c < setsOf.length) {
                        ways[r] |= isOtherwise(s, c, ended) ? ways[s] & ~setsOf[c] : ways[s];
                    }
                }
            }
            return can;
        }
    }

    /** Answers what orders there are; OVER where there are too many stands, ABSENT where there is none. */
    static final class Judge {
        private static final int MOST_CALLS_OF_CORE = 12;
        private static final int SETS_AT_ONCE = 64;

        private final Shop shop;
        private final Stands stands;
        private final Rules rules = new Rules();
        private final int[] path = new int[MOST_CALLS];
        private final int[] could = new int[MOST_ANSWER + 1];
        private final int[] sets = new int[SETS_AT_ONCE];
        private final long[] setsOf = new long[MOST_CALLS];
        private int setCount = 0;

        Judge(Shop shop) {
            this.shop = shop;
            this.stands = new Stands(shop, rules);
        }

        private boolean explore(Calls calls, int kind) {
            rules.takeAll(calls);
            rules.bind(calls, Rules.gapOf(kind, shop.late));
            return stands.explore(calls);
        }

        /** How many orders the rules leave, with so many minutes bound. */
        private long countWays(Calls calls, int gap) {
            rules.bind(calls, gap);
            return stands.explore(calls) ? stands.countWays(rules.must) : OVER;
        }

        long countOrders(Calls calls, int kind) {
            if (kind != EACH) {
                rules.takeAll(calls);
                return countWays(calls, Rules.gapOf(kind, shop.late));
            }
            long product = 1;
            for (int t = 0; t < shop.tills; t++) {
                rules.takeSome(calls.onesOfTill(t), calls.endedOnes());
                long n = countWays(calls, Rules.gapOf(ONE, shop.late));
                if (n < 0) {
                    return OVER;
                }
                product = Stands.times(product, n);
            }
            return product;
        }

        long countOrdersOfTill(Calls calls, int till) {
            rules.takeSome(calls.onesOfTill(till), calls.endedOnes());
            return countWays(calls, Rules.gapOf(ONE, shop.late));
        }

        int countStands(Calls calls, int kind) {
            return explore(calls, kind) ? stands.count : OVER;
        }

        int countEnds(Calls calls, int kind) {
            return explore(calls, kind) ? stands.countEnds() : OVER;
        }

        int pathAt(int i) {
            return i >= 0 && i < MOST_CALLS ? path[i] : NONE;
        }

        /** Keeps the first order as the path, and tells its size. */
        int findFirst(Calls calls, int kind) {
            if (!explore(calls, kind)) {
                return OVER;
            }
            if (stands.countWays(rules.must) == 0) {
                return ABSENT;
            }
            int s = 0;
            int n = 0;
            for (int i = 0; i < MOST_CALLS && !rules.isEnd(stands.doneAt(s)); i++) {
                int k = firstLead(s);
                path[i] = stands.callAt(s, k);
                s = stands.leadAt(s, k);
                n = i + 1;
            }
            return n;
        }

        /** The cashier whose call has the lowest number of those by which a stand leads to an end. */
        private int firstLead(int s) {
            int first = NONE;
            for (int k = 0; k < MOST_CASHIERS; k++) {
                boolean leads = stands.leadsToEnd(stands.leadAt(s, k));
                if (leads && (first < 0 || stands.callAt(s, k) < stands.callAt(s, first))) {
                    first = k;
                }
            }
            return first;
        }

        int findFirsts(Calls calls, int kind) {
            if (!explore(calls, kind)) {
                return OVER;
            }
            stands.countWays(rules.must);
            int ones = 0;
            for (int k = 0; k < MOST_CASHIERS; k++) {
                if (stands.leadsToEnd(stands.leadAt(0, k))) {
                    ones |= 1 << stands.callAt(0, k);
                }
            }
            return ones;
        }

        int comesAhead(Calls calls, int kind, int call, int other) {
            if (!explore(calls, kind)) {
                return OVER;
            }
            stands.countWays(rules.must | 1 << other);
            for (int s = 0; s < stands.count; s++) {
                int done = stands.doneAt(s);
                if ((done >> call & 1) == 1 && (done >> other & 1) == 0 && stands.leadsToEnd(s)) {
                    return 1;
                }
            }
            return 0;
        }

        int findBad(Calls calls, int kind) {
            int passed = 0;
            for (int i = 0; i < calls.n; i++) {
                int c = calls.firstEndedBut(passed);
                if (c < 0) {
                    return NEVER;
                }
                passed |= 1 << c;
                rules.takeSome(calls.onesBegunBy(calls.endOf(c)), passed);
                long n = countWays(calls, Rules.gapOf(kind, shop.late));
                if (n <= 0) {
                    return n < 0 ? OVER : c;
                }
            }
            return NEVER;
        }

        int findMends(Calls calls) {
            int ones = 0;
            for (int c = 0; c < calls.n; c++) {
                if (!calls.isOpen(c)) {
                    rules.takeAll(calls);
                    rules.timed &= ~(1 << c);
                    long n = countWays(calls, Rules.gapOf(ONE, shop.late));
                    if (n < 0) {
                        return OVER;
                    }
                    ones |= n > 0 ? 1 << c : 0;
                }
            }
            return ones;
        }

        int findEnough(Calls calls) {
            rules.takeAll(calls);
            for (int minutes = 0; minutes <= MOST_MINUTES; minutes++) {
                if (minutes == 0 || frees(calls, minutes)) {
                    long n = countWays(calls, minutes);
                    if (n != 0) {
                        return n < 0 ? OVER : minutes;
                    }
                }
            }
            return NEVER;
        }

        /** Whether so many minutes bind fewer calls than one minute less does. */
        private static boolean frees(Calls calls, int minutes) {
            for (int a = 0; a < calls.n; a++) {
                for (int c = 0; c < calls.n; c++) {
                    if (!calls.isOpen(a) && calls.beginOf(c) - calls.endOf(a) == minutes) {
                        return true;
                    }
                }
            }
            return false;
        }

        /** Keeps which answers a call could tell, and tells how many. */
        int findCould(Calls calls, int kind, int call) {
            rules.takeAll(calls);
            rules.strict &= ~(1 << call);
            rules.bind(calls, Rules.gapOf(kind, shop.late));
            if (!stands.explore(calls)) {
                return OVER;
            }
            stands.countWays(rules.must);
            Arrays.fill(could, 0);
            int n = 0;
            for (int s = 0; s < stands.count; s++) {
                int answer = answerOnTheWay(s, call);
                if (answer >= 0 && answer < could.length && could[answer] == 0) {
                    could[answer] = 1;
                    n++;
                }
            }
            return n;
        }

        /** What a call answers behind a stand, if that leads to an end; NONE if it doesn't. */
        private int answerOnTheWay(int s, int call) {
            for (int k = 0; k < MOST_CASHIERS; k++) {
                if (stands.callAt(s, k) == call && stands.leadsToEnd(stands.leadAt(s, k))) {
                    return stands.answerAt(s, call);
                }
            }
            return NONE;
        }

        int leastCould() {
            for (int v = 0; v < could.length; v++) {
                if (could[v] == 1) {
                    return v;
                }
            }
            return ABSENT;
        }

        int greatestCould() {
            for (int v = could.length - 1; v >= 0; v--) {
                if (could[v] == 1) {
                    return v;
                }
            }
            return ABSENT;
        }

        int findCore(Calls calls, int kind) {
            if (calls.n > MOST_CALLS_OF_CORE) {
                return OVER;
            }
            rules.takeAll(calls);
            rules.strict = 0;
            rules.bind(calls, Rules.gapOf(kind, shop.late));
            if (!stands.explore(calls)) {
                return OVER;
            }
            dropSets();
            addSet(rules.must);
            if (firstSetThatCannot() == 0) {
                return NEVER;
            }
            dropSets();
            for (int size = 1; size <= 3; size++) {
                int core = firstCore(size, calls.allOnes());
                if (core != 0) {
                    return core;
                }
            }
            return NOT_BY_THREE;
        }

        /** The first by bits of the sets of so many ended calls that can't all be; 0 if there is none. */
        private int firstCore(int size, int all) {
            for (int ones = 1; ones <= all; ones++) {
                if (Integer.bitCount(ones) == size && (ones & ~rules.must) == 0) {
                    addSet(ones);
                }
                if (setCount == SETS_AT_ONCE || ones == all) {
                    int core = firstSetThatCannot();
                    dropSets();
                    if (core != 0) {
                        return core;
                    }
                }
            }
            return 0;
        }

        private void dropSets() {
            setCount = 0;
            Arrays.fill(setsOf, 0L);
        }

        private void addSet(int ones) {
            if (setCount >= SETS_AT_ONCE) {
                return;
            }
            sets[setCount] = ones;
            for (int c = 0; c < MOST_CALLS; c++) {
                if ((ones >> c & 1) == 1) {
                    setsOf[c] |= 1L << setCount;
                }
            }
            setCount++;
        }

        private int firstSetThatCannot() {
            if (setCount == 0) {
                return 0;
            }
            long can = stands.setsThatCan(setsOf, rules.must);
            for (int i = 0; i < setCount && i < SETS_AT_ONCE; i++) {
                if ((can >> i & 1L) == 0L) {
                    return sets[i];
                }
            }
            return 0;
        }
    }

    /** Makes calls by draws, minute by minute, on tills that are done to as a machine does. */
    static final class Machine {
        private static final int ONE_OF_ALL = 0;
        private static final int THREE = 2;

        private static final int LAST_MINUTE = 999;
        private static final int IDLE = 0;
        private static final int BEGUN = 1;
        private static final int DONE = 2;
        private static final int COPIES = 1 + MOST_CASHIERS;

        /** The tills, and behind them the copies that the machine has; of THREE, the first three are these. */
        private final int[] tills = new int[COPIES * MOST_TILLS];
        private final int[] phases = new int[MOST_CASHIERS];
        private final int[] doing = new int[MOST_CASHIERS];
        private final int[] answers = new int[MOST_CASHIERS];
        private final Shop shop;
        int seed = 0;

        Machine(Shop shop) {
            this.shop = shop;
        }

        static boolean isOne(int machine) {
            return machine >= ONE_OF_ALL && machine <= THREE;
        }

        private int draw(int ways) {
            seed = (75 * seed + 74) % 65537;
            return ways > 0 ? seed % ways : 0;
        }

        /** Makes the calls in place of those there, and tells the minute in which the last one ended. */
        int run(Calls calls, int machine, int n, int seed) {
            this.seed = seed;
            calls.clear();
            Arrays.fill(phases, IDLE);
            for (int i = 0; i < tills.length; i++) {
                tills[i] = Till.atFirst(shop.kindOf(i % MOST_TILLS));
            }
            int ended = 0;
            for (int minute = 1; minute <= LAST_MINUTE; minute++) {
                int k = draw(shop.cashiers);
                if (k >= 0 && k < MOST_CASHIERS && minuteOf(k, calls, machine, n, minute)) {
                    ended++;
                }
                if (ended == n) {
                    return minute;
                }
            }
            return LAST_MINUTE;
        }

        /** What a cashier does when it is drawn; true if its call ends. */
        private boolean minuteOf(int k, Calls calls, int machine, int n, int minute) {
            switch (phases[k]) {
                case IDLE:
                    if (calls.n < n) {
                        doing[k] = begin(calls, k, minute);
                        phases[k] = BEGUN;
                    }
                    return false;
                case BEGUN:
                    answers[k] = act(calls, doing[k], machine, k);
                    phases[k] = DONE;
                    return false;
                default:
                    calls.close(doing[k], minute, answers[k]);
                    phases[k] = IDLE;
                    return true;
            }
        }

        private int begin(Calls calls, int cashier, int minute) {
            int till = draw(shop.tills);
            int kind = shop.kindOf(till);
            int act = Till.actAt(kind, draw(Till.actCount(kind)));
            int whole = Till.hasWhole(kind, act) ? draw(10) : 0;
            return calls.addOpen(cashier, till, act, whole, minute);
        }

        private int act(Calls calls, int c, int machine, int cashier) {
            if (machine == THREE) {
                return actOnTwo(calls, c);
            }
            if (machine == ONE_OF_ALL) {
                return actOn(0, calls, c);
            }
            if (calls.actOf(c) == Till.SEE) {
                return actOn(1 + cashier, calls, c);
            }
            int answer = actOn(0, calls, c);
            System.arraycopy(tills, 0, tills, (1 + cashier) * MOST_TILLS, MOST_TILLS);
            return answer;
        }

        private int actOnTwo(Calls calls, int c) {
            int left = draw(3);
            int lower = left == 0 ? 1 : 0;
            int upper = left == 2 ? 1 : 2;
            int answer = actOn(lower, calls, c);
            if (calls.actOf(c) != Till.SEE) {
                actOn(upper, calls, c);
            }
            return answer;
        }

        /** Does a call's act to a copy of the tills, which answers. */
        private int actOn(int copy, Calls calls, int c) {
            int till = calls.tillOf(c);
            int at = copy * MOST_TILLS + till;
            if (at < 0 || at >= tills.length) {
                return 0;
            }
            int kind = shop.kindOf(till);
            int before = tills[at];
            tills[at] = Till.after(kind, before, calls.actOf(c), calls.wholeOf(c));
            return Till.says(kind, before, calls.actOf(c), calls.wholeOf(c));
        }
    }
}
