import java.util.Random;

/** Terms II: what a TILL answers to an ACT; the KINDS of ORDER; ORDERS; STANDS. */
public final class Terms2Test {
    public static void main(String[] args) {
        drawer();
        queue();
        queueAtSix();
        queueKeepsItsOrder();
        set();
        counter();
        purses();
        tillsAreByThemselves();
        one();
        own();
        late();
        each();
        openCallsMayComeOrNot();
        allThatEndedCome();
        stands();
        Check.end();
    }

    /** One cashier's calls, one behind the other: each can answer what is due, and nothing else. */
    private static void run(String kind, Object... actsAndDue) {
        StringBuilder text = new StringBuilder("law late 0;till t is " + kind + ";cashier a");
        int n = actsAndDue.length / 2;
        for (int i = 0; i < n; i++) {
            text.append(";call a t ").append(actsAndDue[2 * i]).append(" from ").append(i).append(" to ").append(i);
            text.append(" told ").append(actsAndDue[2 * i + 1]);
        }
        OneTill x = Check.of(text.toString());
        String what = text + " ";
        Check.fine(what + "can", x, x.can(0), 1);
        for (int i = 0; i < n; i++) {
            int due = (Integer) actsAndDue[2 * i + 1];
            Check.fine(what + "could " + i, x, x.could(0, i), 1);
            Check.fine(what + "couldTell " + i, x, x.couldTell(0, i, false), due);
            Check.fine(what + "answer " + i, x, x.answer(i, due + 1), due);
            Check.fine(what + "not " + i, x, x.can(0), 0);
            Check.fine(what + "answer " + i, x, x.answer(i, due), due + 1);
        }
    }

    private static void drawer() {
        run("drawer", "see", 0);
        run("drawer", "put 9", 0, "see", 9, "put 0", 0, "see", 0, "put 4", 0, "put 5", 0, "see", 5, "see", 5);
    }

    private static void queue() {
        run("queue", "take", 0, "take", 0);
        run("queue", "put 0", 1, "take", 1, "take", 0);
        run("queue", "put 9", 1, "take", 10, "take", 0, "put 3", 1, "take", 4);
    }

    private static void queueAtSix() {
        run("queue", "put 1", 1, "put 2", 1, "put 3", 1, "put 4", 1, "put 5", 1, "put 6", 1, "put 7", 0, "put 8", 0,
                "take", 2, "put 9", 1, "put 0", 0, "take", 3, "take", 4, "take", 5, "take", 6, "take", 7, "take", 10,
                "take", 0);
        run("queue", "put 0", 1, "put 0", 1, "put 0", 1, "put 0", 1, "put 0", 1, "put 0", 1, "put 0", 0, "take", 1,
                "take", 1, "take", 1, "take", 1, "take", 1, "take", 1, "take", 0);
        run("queue", "put 9", 1, "put 9", 1, "put 9", 1, "put 9", 1, "put 9", 1, "put 9", 1, "put 9", 0, "take", 10,
                "take", 10, "take", 10, "take", 10, "take", 10, "take", 10, "take", 0);
    }

    private static void queueKeepsItsOrder() {
        run("queue", "put 1", 1, "put 2", 1, "take", 2, "put 3", 1, "put 1", 1, "take", 3, "take", 4, "take", 2, "take", 0);
    }

    private static void set() {
        run("set", "see 0", 0, "take 0", 0, "put 0", 1, "put 0", 0, "see 0", 1, "see 1", 0, "take 0", 1, "take 0", 0,
                "see 0", 0);
        run("set", "put 9", 1, "see 9", 1, "see 8", 0, "put 8", 1, "take 9", 1, "see 9", 0, "see 8", 1, "put 9", 1);
        run("set", "put 0", 1, "put 1", 1, "put 2", 1, "put 3", 1, "put 4", 1, "put 5", 1, "put 6", 1, "put 7", 1,
                "put 8", 1, "put 9", 1, "see 0", 1, "see 9", 1, "take 5", 1, "see 4", 1, "see 5", 0, "see 6", 1);
    }

    private static void counter() {
        run("counter", "see", 0, "take", 0, "take", 0, "see", 0, "put", 1, "see", 1, "put", 2, "take", 1, "take", 0,
                "take", 0, "put", 1);
        Object[] puts = new Object[40];
        for (int i = 0; i < 20; i++) {
            puts[2 * i] = "put";
            puts[2 * i + 1] = i + 1;
        }
        run("counter", puts);
    }

    private static void purses() {
        run("purses", "see", 9, "put 9", 1, "see", 0, "put 0", 1, "put 1", 0, "see", 0, "take 9", 1, "see", 9);
        run("purses", "take 9", 1, "see", 18, "take 1", 0, "take 0", 1, "see", 18, "put 9", 1, "see", 9, "put 9", 1,
                "see", 0);
        run("purses", "put 5", 1, "see", 4, "put 5", 0, "see", 4, "put 4", 1, "see", 0);
        run("purses", "take 5", 1, "see", 14, "take 5", 0, "see", 14, "take 4", 1, "see", 18);
    }

    private static void tillsAreByThemselves() {
        OneTill x = Check.of("law late 0;till p is purses;till q is purses;till r is drawer;cashier a;"
                + "call a p put 4 from 1 to 1 told 1;call a q take 3 from 2 to 2 told 1;call a r put 7 from 3 to 3 told 0;"
                + "call a p see from 4 to 4 told 5;call a q see from 5 to 5 told 12;call a r see from 6 to 6 told 7");
        Check.fine("can", x, x.can(0), 1);
        for (int c = 3; c < 6; c++) {
            Check.fine("could", x, x.could(1, c), 1);
        }
        Check.fine("can each", x, x.can(3), 1);
    }

    /** Ends ahead of another one's begin; the same minute is not ahead. */
    private static void one() {
        for (int end = 0; end <= 3; end++) {
            for (int begin = 0; begin <= 4; begin++) {
                OneTill x = Check.of(Books.apart(0, end, begin));
                Check.fine("end " + end + " begin " + begin, x, x.can(0), end < begin ? 0 : 1);
            }
        }
        OneTill x = Check.of(Books.apart(0, 998, 999));
        Check.fine("998, 999", x, x.can(0), 0);
        x = Check.of(Books.apart(0, 999, 999));
        Check.fine("999, 999", x, x.can(0), 1);
        // told the other way round it is the same
        x = Check.of("law late 0;till d is drawer;cashier a,b;call b d see from 6 to 6 told 0;"
                + "call a d put 3 from 0 to 5 told 0");
        Check.fine("told behind it, ended ahead of it", x, x.can(0), 0);
        x = Check.of("law late 0;till d is drawer;cashier a,b;call b d see from 5 to 6 told 0;"
                + "call a d put 3 from 0 to 5 told 0");
        Check.fine("ended in the minute of its begin", x, x.can(0), 1);
    }

    private static void own() {
        OneTill x = Check.of("law late 0;till d is drawer;cashier a,b;call a d put 3 from 0 to 0 told 0;"
                + "call a d see from 1 to 1 told 3;call b d see from 999 to 999 told 0");
        Check.fine("b's may come ahead of all", x, x.can(1), 1);
        Check.fine("a's see not ahead of its put", x, x.ahead(1, 1, 0), 0);
        x.answer(1, 0);
        Check.fine("not in a's own order", x, x.can(1), 0);
        x.lose(0);
        Check.fine("without the put", x, x.can(1), 1);
    }

    private static void late() {
        for (int late : new int[] {0, 1, 50, 99}) {
            for (int more = -1; more <= 1; more++) {
                if (late + more >= 0) {
                    OneTill x = Check.of(Books.apart(late, 5, 5 + late + more));
                    Check.fine("late " + late + " and " + more, x, x.can(2), more <= 0 ? 1 : 0);
                }
            }
        }
        OneTill x = Check.of("law late 99;till d is drawer;cashier a;call a d put 3 from 0 to 0 told 0;"
                + "call a d see from 1 to 1 told 0");
        Check.fine("its own order stays, however late", x, x.can(2), 0);
        x = Check.of(Books.apart(0, 5, 6));
        Check.fine("by no minutes it is as ONE", x, x.can(2), 0);
        x = Check.of(Books.apart(0, 6, 6));
        Check.fine("by no minutes it is as ONE", x, x.can(2), 1);
    }

    private static void each() {
        // the put on q and the see on d bind calls of the other till in ONE alone
        OneTill x = Check.of("law late 0;till d is drawer;till q is queue;cashier a,b;"
                + "call a d put 1 from 1 to 10 told 0;call b q put 2 from 1 to 4 told 1;"
                + "call b d see from 5 to 10 told 1;call a q take from 11 to 12 told 3");
        Check.fine("ONE: put, put, see, take, or q's put first", x, x.orders(0), 2);
        Check.fine("EACH: put, see by put, take", x, x.orders(3), 1);
        x = Check.of("law late 99;till d is drawer;till e is drawer;cashier a,b;"
                + "call a d put 1 from 1 to 8 told 0;call a e see from 9 to 12 told 0;"
                + "call b e put 1 from 1 to 9 told 0;call b d see from 10 to 12 told 0");
        Check.fine("d: the see began behind the put's end", x, x.each(0), 0);
        Check.fine("e: the see may be ahead of the put", x, x.each(1), 1);
        Check.fine("not each of them", x, x.can(3), 0);
        x.answer(3, 1);
        Check.fine("each of them", x, x.can(3), 1);
        eachIsAsAll();
    }

    /** Where each till has an ORDER ONE, all together have one, too, and the other way round. */
    private static void eachIsAsAll() {
        Random r = new Random(7);
        int can = 0;
        for (int i = 0; i < 400; i++) {
            OneTill x = Check.of(Oracle.random(r, 9, 6).text());
            int all = x.can(0);
            int each = 1;
            for (int t = 0; t < x.told(0); t++) {
                each &= x.each(t);
            }
            Check.due("each is as all", each, all);
            Check.fine("EACH is as all", x, x.can(3), all);
            can += all;
        }
        Check.due("some can, some can't", can > 50 && can < 350, true);
    }

    private static void openCallsMayComeOrNot() {
        OneTill x = Check.of("law late 0;till d is drawer;cashier a,b;call a d put 3 from 5 open;"
                + "call b d see from 1 to 5 told 0");
        Check.fine("it didn't come yet", x, x.can(0), 1);
        Check.fine("see, or see and put", x, x.orders(0), 2);
        x.answer(1, 3);
        Check.fine("it came", x, x.orders(0), 1);
        x.answer(1, 4);
        Check.fine("neither", x, x.orders(0), 0);
        x = Check.of("law late 0;till d is drawer;cashier a,b;call a d put 3 from 6 open;"
                + "call b d see from 1 to 5 told 3");
        Check.fine("it began behind it", x, x.can(0), 0);
        Check.fine("OWN", x, x.can(1), 1);
        // an open one has no end: nothing comes behind it by time
        x = Check.of("law late 0;till d is drawer;cashier a,b;call a d put 3 from 0 open;"
                + "call b d see from 999 to 999 told 0");
        Check.fine("it needn't have come", x, x.can(0), 1);
        Check.fine("see; see, put", x, x.orders(0), 2);
    }

    private static void allThatEndedCome() {
        OneTill x = Check.of("law late 0;till d is drawer;cashier a,b;call a d put 3 from 1 to 2 told 1;"
                + "call b d see from 1 to 2 told 0");
        Check.fine("a put that told 1", x, x.can(0), 0);
        x.lose(0);
        Check.fine("without it", x, x.can(0), 1);
    }

    private static void stands() {
        OneTill x = Check.of("law late 1;till d is drawer;cashier a,b;call a d see from 1 to 2 told 0;"
                + "call b d see from 3 to 4 told 0;call a d see from 5 to 6 told 0");
        Check.fine("ONE: one behind the other", x, x.stands(0), 4);
        Check.fine("LATE: each with the one behind it", x, x.stands(2), 6);
        Check.fine("OWN: 3 by 2", x, x.stands(1), 6);
        x.late(0);
        Check.fine("LATE by none", x, x.stands(2), 4);
        for (int kind = 0; kind <= 2; kind++) {
            OneTill y = Books.just(kind);
            Check.fine("6,000", y, y.stands(kind), 6000);
            OneTill z = Books.over(kind);
            Check.refused("6,001", z, z.stands(kind), 3);
            Check.refused("6,001", z, z.can(kind), 3);
        }
    }
}
