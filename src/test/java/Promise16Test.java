/** Promise 16, core(): the fewest calls that ended whose answers can't all be. */
public final class Promise16Test {
    public static void main(String[] args) {
        kindsOutOfBounds();
        thereIsAnOrder();
        ofOneCall();
        ofLikeOnesTheLeastBits();
        ofTwoAndThree();
        threeDontDo();
        anyTwoAndThreeOfTwelve();
        openOnesAreNotInIt();
        twelveAndThirteenCalls();
        openOnesAreCalls();
        at6000And6001Stands();
        theStandsIfAllAnswersAreAnything();
        Check.end();
    }

    private static void kindsOutOfBounds() {
        OneTill x = Check.of(Books.NEVER);
        for (int kind : new int[] {-1, 3, 4, Integer.MIN_VALUE, Integer.MAX_VALUE}) {
            Check.refused("core(" + kind + ")", x, x.core(kind), 1);
        }
        for (int kind = 0; kind <= 2; kind++) {
            Check.fine("core(" + kind + ")", x, x.core(kind), 1);
        }
    }

    private static void thereIsAnOrder() {
        for (int kind = 0; kind <= 2; kind++) {
            OneTill x = Check.of(Books.EMPTY);
            Check.fine("no calls, kind " + kind, x, x.core(kind), -2);
            x = Check.of(Books.SMALL);
            Check.fine("an order, kind " + kind, x, x.core(kind), -2);
        }
    }

    private static void ofOneCall() {
        for (int at = 0; at < 12; at++) {
            OneTill x = Check.of(Books.sees(12));
            x.answer(at, 1);
            for (int kind = 0; kind <= 2; kind++) {
                Check.fine("call " + at + ", kind " + kind, x, x.core(kind), 1 << at);
            }
        }
    }

    private static void ofLikeOnesTheLeastBits() {
        OneTill x = Check.of(Books.sees(12));
        for (int at = 11; at >= 0; at--) {
            x.answer(at, 1);
            Check.fine("all from " + at + " on", x, x.core(0), 1 << at);
        }
        // two of these three can't be: 0 and 1, 0 and 2, 1 and 2
        x = Check.of("law late 0;till s is set;cashier a,b,c;call a s put 1 from 1 to 5 told 1;"
                + "call b s put 1 from 1 to 5 told 1;call c s put 1 from 1 to 5 told 1");
        Check.fine("two of three", x, x.core(0), 3);
        x.answer(1, 0);
        Check.fine("0 and 2", x, x.core(0), 5);
        x.answer(0, 0);
        Check.fine("an order", x, x.core(0), -2);
        x.answer(2, 0);
        Check.fine("none found it empty", x, x.core(0), 7);
    }

    private static void ofTwoAndThree() {
        OneTill x = Check.of("law late 0;till q is queue;cashier a,b,c;call a q put 1 from 1 to 9 told 1;"
                + "call b q take from 10 to 19 told 2;call c q take from 10 to 19 told 2");
        Check.fine("1 was there but once", x, x.core(0), 6);
        x.answer(2, 0);
        Check.fine("one of them got it", x, x.core(0), -2);
        x.answer(1, 0);
        Check.fine("and not none", x, x.core(0), 6);
        x = Check.of("law late 0;till s is set;cashier a,b,c,d;call a s take 1 from 1 to 9 told 1;"
                + "call b s take 1 from 1 to 9 told 1;call c s put 1 from 1 to 9 told 1;"
                + "call d s put 1 from 1 to 9 told 0");
        Check.fine("three of four", x, x.core(0), 11);
    }

    /** Any three of four may have found what the fourth one put, but not all four. */
    private static void threeDontDo() {
        StringBuilder text = new StringBuilder("law late 0;till s is set;cashier a,b,c,d");
        for (int i = 0; i < 4; i++) {
            text.append(";call ").append("abcd".charAt(i)).append(" s put 1 from 1 to 9 told 0");
        }
        OneTill x = Check.of(text.toString());
        for (int kind = 0; kind <= 2; kind++) {
            Check.fine("four puts, none of which was the first", x, x.core(kind), -3);
        }
        x.lose(3);
        for (int kind = 0; kind <= 2; kind++) {
            Check.fine("three puts", x, x.core(kind), 7);
        }
        x.lose(0);
        Check.fine("two puts", x, x.core(0), 3);
        x.lose(0);
        Check.fine("one put", x, x.core(0), 1);
    }

    /** Twelve calls; those told by bits put the same into a set, all others see nothing in a drawer. */
    private static OneTill putting(int bits, int told) {
        StringBuilder text = new StringBuilder("law late 99;till s is set;till t is drawer;cashier a,b,c,d");
        for (int i = 0; i < 12; i++) {
            boolean puts = (bits >> i & 1) == 1;
            text.append(";call ").append("abcd".charAt(i % 4)).append(puts ? " s put 1" : " t see");
            text.append(" from ").append(i / 4).append(" to ").append(i / 4).append(" told ").append(puts ? told : 0);
        }
        return Check.of(text.toString());
    }

    private static void anyTwoAndThreeOfTwelve() {
        for (int bits = 1; bits < 1 << 12; bits++) {
            int n = Integer.bitCount(bits);
            // of one cashier's calls one comes ahead of the other, which leaves fewer to be told
            if (n > Integer.bitCount((bits | bits >> 4 | bits >> 8) & 15)) {
                continue;
            }
            if (n == 2) {
                OneTill x = putting(bits, 1);
                Check.fine("two that both put it first: " + bits, x, x.core(1), bits);
                Check.fine("LATE by 99: " + bits, x, x.core(2), bits);
            } else if (n == 3) {
                OneTill x = putting(bits, 0);
                Check.fine("three that found it: " + bits, x, x.core(1), bits);
            } else if (n == 4) {
                OneTill x = putting(bits, 0);
                Check.fine("four that found it: " + bits, x, x.core(1), -3);
            }
        }
    }

    private static void openOnesAreNotInIt() {
        OneTill x = Check.of("law late 0;till d is drawer;cashier a,b,c;call c d put 3 from 1 open;"
                + "call a d see from 1 to 5 told 4;call b d see from 1 to 5 told 3");
        Check.fine("call 1 alone", x, x.core(0), 2);
        x.answer(1, 3);
        Check.fine("an order", x, x.core(0), -2);
        x.lose(0);
        Check.fine("without the open one", x, x.core(0), 1);
    }

    private static void twelveAndThirteenCalls() {
        OneTill x = Check.of(Books.sees(13));
        for (int kind = 0; kind <= 2; kind++) {
            Check.refused("13 calls that have an order, kind " + kind, x, x.core(kind), 3);
        }
        x.answer(12, 1);
        Check.refused("13 calls", x, x.core(0), 3);
        x.lose(0);
        for (int kind = 0; kind <= 2; kind++) {
            Check.fine("12 calls, kind " + kind, x, x.core(kind), 1 << 11);
        }
        x.answer(11, 0);
        Check.fine("12 calls that have an order", x, x.core(0), -2);
    }

    private static void openOnesAreCalls() {
        OneTill x = Check.of(Books.sees(13));
        x.opens(0);
        Check.refused("13 calls, one of them open", x, x.core(0), 3);
        x.lose(12);
        x.opens(0);
        Check.fine("12 calls, one of them open", x, x.core(0), -2);
    }

    private static void at6000And6001Stands() {
        OneTill x = Check.of(Books.CORE_OVER);
        Check.due("12 calls", x.told(2), 12);
        Check.refused("6,001 stands", x, x.core(2), 3);
        Check.yes("lose", x, x.lose(0));
        Check.due("6,000 stands", x.core(2) != -1, true);
        Check.due("trouble", x.trouble(), 0);
        x.answer(0, 1);
        Check.fine("6,000 stands and no order", x, x.core(2), 1);
        x.late(99);
        Check.refused("more by more minutes", x, x.core(2), 3);
    }

    /** What was told leaves few stands, what could be told too many. */
    private static void theStandsIfAllAnswersAreAnything() {
        OneTill x = Check.of(Books.CORE_OVER);
        Check.due("stands as they told", x.stands(2) > 0 && x.stands(2) <= 6000, true);
        Check.refused("core", x, x.core(2), 3);
        x.answer(0, 50);
        Check.fine("one stand", x, x.stands(2), 1);
        Check.refused("core", x, x.core(2), 3);
    }
}
