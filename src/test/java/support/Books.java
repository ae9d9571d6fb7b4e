/** Books that more than one test looks at. */
final class Books {
    /** Five calls, the last two of them open; a cashier c without a call. */
    static final String SMALL = "law late 5;till d is drawer;till q is queue;cashier a,b,c;"
            + "call a d put 4 from 1 to 3 told 0;call b d see from 2 to 6 told 4;call a q put 7 from 5 to 8 told 1;"
            + "call b q take from 9 open;call a d see from 10 open";

    /** What each of its calls is: cashier, till, act, whole, begin, end, answer. */
    static final int[][] SMALL_CALLS = {{0, 0, 0, 4, 1, 3, 0}, {1, 0, 2, 0, 2, 6, 4}, {0, 1, 0, 7, 5, 8, 1},
        {1, 1, 1, 0, 9, -2, -2}, {0, 0, 2, 0, 10, -2, -2}};

    /** Without any call. */
    static final String EMPTY = "law late 0;till d is drawer;cashier a";

    /** One call that can't have been: what a drawer is at first, told wrong. */
    static final String NEVER = "law late 0;till d is drawer;cashier a,b;call a d see from 1 to 2 told 1";

    /** 6,001 stands of ONE on one till, and an order; without call 0 there are 6,000, and an order. */
    static final String ONE_OVER = "law late 0;till p is queue;cashier a,b,c,d;call a p take from0to0told0;"
            + "call a p take from2to13told0;call b p put2 from5to16told1;call c p put1 from8to19told1;"
            + "call d p put7 from11to22told1;call a p put0 from14to25told1;call b p put3 from17to28told1;"
            + "call c p put6 from20to31told1;call d p put1 from23to34told0;call a p put1 from26to37told0;"
            + "call b p put7 from29to40told0;call c p put8 from32open;call d p take from35open;"
            + "call a p put2 from38to49told0";

    /** 6,000 stands of OWN on three tills, and an order; all within five minutes. */
    static final String OWN_JUST = "law late 99;till p is queue;till q is counter;till r is drawer;cashier a,b,c,d;"
            + "call a r put2 from0to0told0;call a r put8 from1to1told0;call d p put2 from0to0told1;"
            + "call c p put0 from0to0told1;call c p put6 from1to1told1;call d q put from1to1told1;"
            + "call b r put6 from0to0told0;call d r put6 from2to2told0;call b q put from1to1told2;"
            + "call a p put1 from2to2told1;call a p put9 from3to3told1;call c r put7 from2to2told0;"
            + "call c q put from3to3told3;call b q put from2to2told4;call b p put9 from3to3told1;"
            + "call d q put from3to3told5;call d p put2 from4to4told0;call a r put8 from4to4told0;"
            + "call d p take from5to5told3;call b r put0 from4to4told0";

    /** 6,001 stands of OWN on two tills. */
    static final String OWN_OVER = "law late 99;till p is queue;till q is drawer;cashier a,b,c,d;"
            + "call a p put6 from0to0told1;call a p put2 from1to1told1;call c p put4 from0to0told1;"
            + "call b q put4 from0to0told0;call a q put3 from2to2told0;call b p put2 from1to1told1;"
            + "call b q put3 from2to2told0;call a p put8 from3to3told1;call d p take from0to0told7;"
            + "call b q put2 from3to3told0;call b p put1 from4to4told1;call c q put5 from1to1told0;"
            + "call c p put2 from2to2told1;call d q put9 from1to1told0;call b q put5 from5to5told0;"
            + "call d q put7 from2to2told0";

    /** 6,001 stands of LATE on three tills, and an order; without call 0 there are 6,000, and an order. */
    static final String LATE_OVER = "law late 2;till p is queue;till q is queue;till r is drawer;cashier a,b,c,d;"
            + "call a p take from0to0told0;call a p take from1to1told0;call a p take from2to2told0;"
            + "call a p take from3to3told0;call d q put4 from7to8told1;call c r put1 from7to8told0;"
            + "call b p put7 from7to7told1;call b p put4 from8to8told1;call b q put7 from9to9told1;"
            + "call d p put2 from9to9told1;call c q put2 from9to9told1;call d q put6 from10to10told1;"
            + "call a p put3 from7to7told1;call d r put0 from11to12told0;call b p put9 from10to11told1;"
            + "call c r see from10to10told0;call c q put5 from11to11told1;call a p put4 from8open";

    /** 6,001 stands of ONE behind some end of a call; without call 0 there are 6,000 at most; none is bad. */
    static final String BAD_OVER = "law late 0;till p is queue;cashier a,b,c,d;call a p take from0to0told0;"
            + "call a p take from2to9told0;call b p put1 from4to11told1;call c p put4 from6to13told1;"
            + "call d p put6 from8to15told1;call a p put9 from10to17told1;call b p put0 from12to19told1;"
            + "call c p put5 from14to21told1;call d p put4 from16to23told0;call a p put3 from18to25told0;"
            + "call b p put0 from20to27told0;call c p put3 from22to29told0;call d p put3 from24to31told1;"
            + "call a p take from26to33told2";

    /** Twelve calls: 6,001 stands of LATE if all answers are anything; without call 0 there are 6,000. */
    static final String CORE_OVER = "law late 3;till p is queue;cashier a,b,c,d;call a p take from0to0told0;"
            + "call a p take from1to1told0;call a p put0 from6to10told1;call a p put8 from11to15told1;"
            + "call c p put7 from6to6told1;call c p put7 from10to16told1;call c p put1 from17to24told1;"
            + "call c p put5 from26to26told1;call b p put9 from6to11told0;call b p put8 from12to19told0;"
            + "call d p put2 from6to13told0;call d p put6 from14to19told0";

    /** No order ONE, few stands of it; 6,000 at most with the end of any one call behind all. */
    static final String MENDS_JUST = "law late 0;till p is queue;cashier a,b,c,d;call a p put7 from0to7told1;"
            + "call b p take from2to9told0;call c p put9 from4to11told1;call d p put0 from6to13told1;"
            + "call a p put1 from8to15told1;call b p put8 from10to17told1;call c p put4 from12to19told1;"
            + "call d p put1 from14to21told0;call a p take from16open;call b p put0 from18open;"
            + "call c p put6 from20open;call d p put0 from22to29told1;call d p take from30to30told99";

    /** No order ONE, few stands of it; 6,001 with the end of some call behind all. */
    static final String MENDS_OVER = "law late 0;till p is queue;cashier a,b,c,d;call a p put4 from0to7told1;"
            + "call b p put7 from2to9told1;call c p put3 from4to11told1;call d p put2 from6to13told1;"
            + "call a p put1 from8to15told1;call b p put2 from10to17told1;call c p put8 from12to19told0;"
            + "call d p put8 from14open;call a p put6 from16open;call b p take from18open;"
            + "call c p put8 from20to27told0;call c p take from28to28told99";

    /** Two minutes are enough, but by them there are 6,001 stands; without call 0 there are 6,000. */
    static final String ENOUGH_OVER = "law late 0;till p is queue;till q is queue;till r is drawer;cashier a,b,c,d;"
            + "call a p take from0to0told0;call a p take from1to1told0;call b p put7 from5to5told1;"
            + "call d p put7 from5to5told1;call a p put0 from5to5told1;call d r put7 from6to6told0;"
            + "call c p put1 from5to6told1;call c p put8 from7to8told1;call c p take from9to10told8;"
            + "call b p put6 from6to6told1;call b p put2 from7to7told1;call d q put7 from7to8told1;"
            + "call a p put5 from6open;call d p put3 from9to9told0;call b r see from8to9told7";

    private Books() {
    }

    /** Two calls: nothing but the one's end and the other's begin tells which of them must come ahead. */
    static String apart(int late, int end, int begin) {
        return "law late " + late + ";till d is drawer;cashier a,b;call a d put 3 from 0 to " + end
                + " told 0;call b d see from " + begin + " to " + begin + " told 0";
    }

    /** So many calls of one cashier, one behind the other, each of which sees what a counter is at first. */
    static String sees(int n) {
        StringBuilder text = new StringBuilder("law late 0;till c is counter;cashier a");
        for (int i = 0; i < n; i++) {
            text.append(";call a c see from ").append(i).append(" to ").append(i).append(" told 0");
        }
        return text.toString();
    }

    /** A book whose stands of a kind are 6,000, with an order. */
    static OneTill just(int kind) {
        if (kind == 1) {
            return Check.of(OWN_JUST);
        }
        OneTill x = over(kind);
        Check.yes("lose(0)", x, x.lose(0));
        return x;
    }

    /** A book whose stands of a kind are 6,001. */
    static OneTill over(int kind) {
        return Check.of(kind == 0 ? ONE_OVER : kind == 1 ? OWN_OVER : LATE_OVER);
    }
}
