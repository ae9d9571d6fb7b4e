/** Promise 6, can(): whether there is an ORDER of a KIND. */
public final class Promise06Test {
    public static void main(String[] args) {
        kindsOutOfBounds();
        answersOneAndZero();
        ofNoCalls();
        ofOpenCallsAlone();
        eachKindByItself();
        at6000And6001Stands();
        eachAt6000And6001Stands();
        oneTillOverRefusesEach();
        Check.end();
    }

    private static void kindsOutOfBounds() {
        OneTill x = Check.of(Books.SMALL);
        for (int kind : new int[] {-1, 4, 5, Integer.MIN_VALUE, Integer.MAX_VALUE}) {
            Check.refused("can(" + kind + ")", x, x.can(kind), 1);
        }
        Check.fine("can(0)", x, x.can(0), 1);
        Check.fine("can(3)", x, x.can(3), 1);
    }

    private static void answersOneAndZero() {
        for (int kind = 0; kind <= 3; kind++) {
            OneTill x = Check.of(Books.NEVER);
            Check.fine("never " + kind, x, x.can(kind), 0);
            x.answer(0, 0);
            Check.fine("now " + kind, x, x.can(kind), 1);
        }
    }

    private static void ofNoCalls() {
        OneTill x = Check.of(Books.EMPTY);
        for (int kind = 0; kind <= 3; kind++) {
            Check.fine("no calls " + kind, x, x.can(kind), 1);
        }
    }

    private static void ofOpenCallsAlone() {
        OneTill x = Check.of(Books.EMPTY + ";call a d put 3 from 1 open");
        for (int kind = 0; kind <= 3; kind++) {
            Check.fine("an open call " + kind, x, x.can(kind), 1);
        }
    }

    /** ONE, LATE by two minutes, EACH and OWN fall one by one as the calls come further apart. */
    private static void eachKindByItself() {
        int[][] due = {{1, 1, 1, 1}, {1, 1, 1, 1}, {0, 1, 1, 0}, {0, 1, 1, 0}, {0, 1, 0, 0}, {0, 1, 0, 0}};
        for (int begin = 4; begin <= 9; begin++) {
            OneTill x = Check.of(Books.apart(2, 5, begin));
            for (int kind = 0; kind <= 3; kind++) {
                Check.fine("begin " + begin + " can " + kind, x, x.can(kind), due[begin - 4][kind]);
            }
        }
        // till by till it can be, all together it can't
        OneTill x = Check.of("law late 0;till d is drawer;till e is drawer;cashier a,b;"
                + "call a d put 1 from 1 to 9 told 0;call a e see from 10 to 19 told 0;"
                + "call b e put 1 from 2 to 18 told 0;call b d see from 19 to 20 told 0");
        Check.fine("the see of d comes too late", x, x.can(3), 0);
        x = Check.of("law late 0;till q is queue;till r is queue;cashier a,b;"
                + "call a q put 1 from 1 to 2 told 1;call b r put 3 from 1 to 20 told 1;"
                + "call a r put 4 from 3 to 20 told 1;call b q put 2 from 21 to 30 told 1;"
                + "call a r take from 21 to 30 told 5;call b q take from 31 to 32 told 2");
        Check.fine("each by itself", x, x.can(3), 1);
        Check.fine("and all", x, x.can(0), 1);
        x = Check.of("law late 0;till q is queue;till r is queue;cashier a,b;"
                + "call a q put 1 from 1 to 9 told 1;call a r put 3 from 10 to 20 told 1;"
                + "call b r put 4 from 1 to 9 told 1;call b q put 2 from 10 to 20 told 1;"
                + "call a q take from 21 to 30 told 3;call b r take from 21 to 30 told 4");
        Check.fine("a's take needs b's put ahead", x, x.can(3), 0);
    }

    private static void at6000And6001Stands() {
        for (int kind = 0; kind <= 2; kind++) {
            OneTill x = Books.just(kind);
            Check.fine("6,000 stands, kind " + kind, x, x.can(kind), 1);
            OneTill y = Books.over(kind);
            Check.refused("6,001 stands, kind " + kind, y, y.can(kind), 3);
        }
    }

    private static void eachAt6000And6001Stands() {
        OneTill x = Books.just(0);
        Check.fine("6,000 stands of a till", x, x.can(3), 1);
        OneTill y = Books.over(0);
        Check.refused("6,001 stands of a till", y, y.can(3), 3);
        // the stands of the tills together don't matter: here they are 6,001 of ONE
        OneTill z = Check.of("law late 0;till p is queue;till q is drawer;cashier a,b,c,d;"
                + "call a p take from0to0told0;call a p put2 from2to9told1;call b p put8 from4to11told1;"
                + "call c p take from6to13told9;call d p put4 from8to15told1;call a p take from10to17told3;"
                + "call b p put4 from12to19told1;call c p take from14to21told5;call d p put5 from16to23told1;"
                + "call a p put8 from18to25told1;call b p put3 from20to27told1;call c p put0 from22to29told1;"
                + "call d p put4 from24to31told1;call a q put8 from26to33told0;call b q put3 from28to35told0;"
                + "call c p take from30to37told5;call d p put1 from32open;call a p put5 from34to41told0;"
                + "call b p put2 from36open");
        Check.refused("ONE", z, z.can(0), 3);
        Check.fine("EACH", z, z.can(3), 1);
    }

    private static void oneTillOverRefusesEach() {
        String[] order = {"till p is queue;till z is set", "till z is set;till p is queue"};
        for (String tills : order) {
            OneTill x = Check.of(Books.ONE_OVER.replace("till p is queue", tills));
            Check.refused(tills, x, x.can(3), 3);
            Check.yes("lose", x, x.lose(0));
            Check.fine(tills, x, x.can(3), 1);
        }
    }
}
