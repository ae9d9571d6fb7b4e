/** Terms I: THE TEXT of a BOOK, its TOKENS, LINES, NAMES, bounds and FAULTS. */
public final class Terms1Test {
    private static final String HEAD = "law late 7;till d is drawer;till q is queue;till s is set;cashier a,b;";
    private static final String TAIL = "law late 7;till c is counter;till p is purses;cashier a,b;";

    public static void main(String[] args) {
        blanksPartTokensAndMeanNothingElse();
        wordsOfOneToEightLetters();
        wholesOfOneToThreeDigits();
        bytesThatBeginNoToken();
        theLawsMinutes();
        upToThreeTills();
        kindsOfTills();
        upToFourCashiers();
        upToTwentyCalls();
        actsByTheKind();
        wholesOfActs();
        beginsAndEnds();
        whatIsTold();
        namesAreNotTheFiveWords();
        namesAreToldOnce();
        namesAreToldAheadOfTheirUse();
        beginsBehindTheEndAhead();
        noneBehindAnOpenOne();
        formAtTheEnd();
        theFirstFromTheLeft();
        ofOnePlaceTheLeastNumber();
        lacks();
        Check.end();
    }

    private static void after(String head, String text, int number, int behind) {
        Check.fault(head + text, number, head.length() + behind);
    }

    private static void blanksPartTokensAndMeanNothingElse() {
        Check.good("law late 7;till d is drawer;cashier a,b", 0);
        Check.good("     law     late     7   ;till d is drawer   ;   cashier a  ,  b     ", 0);
        Check.good("law late7;till d is drawer;cashier a,b;call a d put3from4to5told6", 1);
        Check.fault("lawlate 7", 1, 0);
        Check.fault("la w late 7", 1, 0);
        Check.fault("law late 7 7", 1, 11);
        Check.fault("law late 7till", 1, 10);
        Check.fault("cashier a b", 1, 10);
        after(HEAD, "call a d put 1 2 from", 1, 15);
        after(HEAD, "call ad put", 2, 5);
        Check.fault("", 1, 0);
        Check.fault(" ", 1, 1);
        Check.fault("                    ", 1, 20);
    }

    private static void wordsOfOneToEightLetters() {
        Check.good("law late 7;till a is set;cashier z", 0);
        Check.good("law late 7;till abcdefgh is set;cashier zzzzzzzz;call zzzzzzzz abcdefgh see 1 from 2 open", 1);
        Check.fault("law late 7;till abcdefghi is set", 1, 16);
        Check.fault("law late 7;cashier zzzzzzzzz", 1, 19);
        Check.fault("law late 7;cashier y,zzzzzzzzz", 1, 21);
        after(HEAD, "call aaaaaaaaa d see", 1, 5);
        after(HEAD, "call aaaaaaaa d see", 2, 5);
        after(HEAD, "call a ddddddddd see", 1, 7);
        after(HEAD, "call a dddddddd see", 2, 7);
        Check.fault("lawlatela", 1, 0);
        // eight letters are looked at, all of them
        Check.good("law late 7;till abcdefgh is set;cashier abcdefgi,bbcdefgh,abcdefg", 0);
        Check.fault("law late 7;till abcdefgh is set;cashier abcdefgi,abcdefgh", 3, 49);
        Check.good("law late 7;till a is set;cashier aa,aaa,aaaa,aaaaa", 0);
    }

    private static void wholesOfOneToThreeDigits() {
        Check.good("law late 7;till d is drawer;cashier a;call a d put 003 from 004 to 005 told 006", 1);
        Check.good("law late 07;till d is drawer;cashier a", 0);
        Check.good("law late 007;till d is drawer;cashier a", 0);
        Check.fault("law late 0007;till d is drawer;cashier a", 1, 9);
        Check.fault("law late 1000", 1, 9);
        Check.fault("law late 12345678901234567890", 1, 9);
        after(HEAD, "call a d put 0003 from", 1, 13);
        after(HEAD, "call a d see from 0004 to", 1, 18);
        after(HEAD, "call a d see from 4 to 1000", 1, 23);
        after(HEAD, "call a d see from 4 to 5 told 0001", 1, 30);
    }

    private static void bytesThatBeginNoToken() {
        String no = "\u0000\t\n\r\u001f!\"#$%&'()*+-./:<=>?@ABZ[\\]^_`{|}~\u007f\u0080\u00a0\u00ff";
        for (int i = 0; i < no.length(); i++) {
            Check.fault(no.charAt(i) + "law late 7", 1, 0);
            Check.fault("law late 7" + no.charAt(i) + ";till", 1, 10);
            Check.fault("law" + no.charAt(i) + "late 7", 1, 3);
            Check.fault("law late 7;till d is drawer;cashier a" + no.charAt(i), 1, 37);
        }
        String yes = "az09";
        for (int i = 0; i < yes.length(); i++) {
            Check.fault("law late 7" + ";" + yes.charAt(i), 1, 11);
        }
        Check.good("law late 7;till a is set;cashier z", 0);
        Check.fault(",law late 7", 1, 0);
        Check.fault(";law late 7", 1, 0);
        Check.fault("law late 7;;till d is drawer", 1, 11);
        Check.fault("law late 7,till d is drawer", 1, 10);
    }

    private static void theLawsMinutes() {
        for (int m : new int[] {0, 1, 98, 99}) {
            OneTill x = Check.of("law late " + m + ";till d is drawer;cashier a");
            Check.due("told " + m, x.told(4), m);
        }
        Check.fault("law late 100;till", 4, 9);
        Check.fault("law late 999;till", 4, 9);
        Check.fault("law late -1", 1, 9);
        Check.fault("law late", 1, 8);
        Check.fault("law 7", 1, 4);
        Check.fault("law late late", 1, 9);
        Check.fault("law late 7;law", 3, 11);
        Check.fault("law late 7;till d is drawer;law late 7", 3, 28);
    }

    private static void upToThreeTills() {
        String[] lines = {"till d is drawer", "till e is queue", "till f is set", "till g is set"};
        String text = "law late 7;cashier a;";
        for (int n = 1; n <= 3; n++) {
            text += lines[n - 1];
            OneTill x = Check.of(text);
            Check.due(n + " tills", x.told(0), n);
            text += ";";
        }
        after(text, lines[3], 5, 0);
        after(text, "till", 5, 0);
        after(text, "till ?", 5, 0);
        after(text, "  till d", 5, 2);
        after(text, "call a f see 1 from 0 open;till", 5, 27);
    }

    private static void kindsOfTills() {
        for (String kind : Oracle.KINDS) {
            Check.good("law late 7;cashier a;till t is " + kind, 0);
        }
        for (String no : new String[] {"draw", "drawers", "queues", "sets", "counte", "purse", "is", "t", "put", "law"}) {
            Check.fault("law late 7;cashier a;till t is " + no, 1, 31);
        }
        Check.fault("till t is 7", 1, 10);
        Check.fault("till t is", 1, 9);
        Check.fault("till t set", 1, 7);
        Check.fault("till is set", 1, 8);
        Check.good("till is is set;law late 7;cashier a", 0);
        Check.fault("till t is set set", 1, 14);
    }

    private static void upToFourCashiers() {
        String[] names = {"a", "b", "c", "d"};
        String text = "law late 7;till t is set;cashier ";
        for (int n = 1; n <= 4; n++) {
            text += names[n - 1];
            Check.due(n + " cashiers", Check.of(text).told(1), n);
            text += ",";
        }
        after(text, "e", 5, 0);
        after(text, " e,f", 5, 1);
        String four = text.substring(0, text.length() - 1) + ";cashier ";
        after(four, "e", 5, 0);
        after(four, "", 1, 0);
        Check.good("law late 7;till t is set;cashier a;cashier b;cashier c;cashier d", 0);
        Check.good("law late 7;cashier a,b,c;till t is set;cashier d", 0);
        Check.fault("law late 7;cashier a,b,c;till t is set;cashier d,e", 5, 49);
        Check.fault("cashier a,", 1, 10);
        Check.fault("cashier ,a", 1, 8);
        Check.fault("cashier a,,b", 1, 10);
        Check.fault("cashier a;b", 1, 10);
        Check.fault("cashier", 1, 7);
    }

    private static void upToTwentyCalls() {
        Check.good(Books.sees(19), 19);
        Check.good(Books.sees(20), 20);
        String twenty = Books.sees(20) + ";";
        after(twenty, "call a c see from 20 to 20 told 0", 5, 0);
        after(twenty, "call", 5, 0);
        after(twenty, "call x", 5, 0);
        after(twenty, " call", 5, 1);
        after(twenty, "calls", 1, 0);
        after(twenty, "", 1, 0);
        after(twenty, "cashier a", 3, 8);
        Check.good(twenty + "cashier b;till t is set", 20);
    }

    private static void actsByTheKind() {
        String[] kinds = {"drawer", "queue", "set", "counter", "purses"};
        String[][] good = {{"put 1", "see"}, {"put 1", "take"}, {"put 1", "take 1", "see 1"}, {"put", "take", "see"},
            {"put 1", "take 1", "see"}};
        // where what doesn't go on stands, behind the act's first letter
        String[][] form = {{"put", "take", "take 1", "see 1"}, {"put", "take 1", "see", "see 1"}, {"put", "take", "see"},
            {"put 1", "take 1", "see 1"}, {"put", "take", "see 1"}};
        int[][] places = {{4, 0, 0, 4}, {4, 5, 0, 0}, {4, 5, 4}, {4, 5, 4}, {4, 5, 4}};
        for (int k = 0; k < 5; k++) {
            String text = "law late 7;cashier a;till t is " + kinds[k] + ";call a t ";
            for (String act : good[k]) {
                Check.good(text + act + " from 1 open", 1);
            }
            for (int i = 0; i < form[k].length; i++) {
                after(text, form[k][i] + " from 1 open", 1, places[k][i]);
            }
            after(text, "give from 1 open", 1, 0);
            after(text, "from 1 open", 1, 0);
            after(text, "1 from 1 open", 1, 0);
        }
    }

    private static void wholesOfActs() {
        for (int v = 0; v <= 9; v++) {
            OneTill x = Check.of(HEAD + "call a d put " + v + " from 0 open;call b s see " + v + " from 0 open");
            Check.due("put", x.call(0, 3), v);
            Check.due("see", x.call(1, 3), v);
        }
        String[] of = {"d put ", "q put ", "s put ", "s take ", "s see "};
        for (String act : of) {
            Check.good(HEAD + "call a " + act + "0 from 0 open", 1);
            Check.good(HEAD + "call a " + act + "9 from 0 open", 1);
            after(HEAD, "call a " + act + "10 from 0 open", 4, 7 + act.length());
            after(HEAD, "call a " + act + "999 from 0 open", 4, 7 + act.length());
        }
        for (String act : new String[] {"p put ", "p take "}) {
            Check.good(TAIL + "call a " + act + "0 from 0 open", 1);
            Check.good(TAIL + "call a " + act + "9 from 0 open", 1);
            after(TAIL, "call a " + act + "10 from 0 open", 4, 7 + act.length());
        }
    }

    private static void beginsAndEnds() {
        Check.good(HEAD + "call a d see from 0 to 0 told 0", 1);
        Check.good(HEAD + "call a d see from 999 to 999 told 0", 1);
        Check.good(HEAD + "call a d see from 0 to 999 told 0", 1);
        Check.good(HEAD + "call a d see from 999 open", 1);
        Check.good(HEAD + "call a d see from 5 to 5 told 0", 1);
        Check.good(HEAD + "call a d see from 5 to 6 told 0", 1);
        after(HEAD, "call a d see from 5 to 4 told 0", 4, 23);
        after(HEAD, "call a d see from 999 to 998 told 0", 4, 25);
        after(HEAD, "call a d see from 1 to 0 told", 4, 23);
        after(HEAD, "call a d see from 5 to 6", 1, 24);
        after(HEAD, "call a d see from 5 to 6 open", 1, 25);
        after(HEAD, "call a d see from 5", 1, 19);
        after(HEAD, "call a d see from open", 1, 18);
        after(HEAD, "call a d see from 5 opens", 1, 20);
        after(HEAD, "call a d see from 5 told 6", 1, 20);
    }

    private static void whatIsTold() {
        Check.good(HEAD + "call a d see from 5 to 6 told 0", 1);
        Check.good(HEAD + "call a d see from 5 to 6 told 99", 1);
        after(HEAD, "call a d see from 5 to 6 told 100", 4, 30);
        after(HEAD, "call a d see from 5 to 6 told", 1, 29);
        after(HEAD, "call a d see from 5 to 6 told a", 1, 30);
        after(HEAD, "call a d see from 5 to 6 told 7 8", 1, 32);
    }

    private static void namesAreNotTheFiveWords() {
        for (String no : new String[] {"law", "till", "cashier", "call", "from"}) {
            Check.fault("till " + no + " is set", 1, 5);
            Check.fault("cashier " + no, 1, 8);
            Check.fault("cashier a," + no, 1, 10);
            after(HEAD, "call " + no + " d see", 1, 5);
            after(HEAD, "call a " + no + " see", 1, 7);
        }
        for (String yes : new String[] {"late", "is", "drawer", "queue", "set", "counter", "purses", "to", "told", "open",
            "put", "take", "see", "laws", "la", "tills", "calls", "fro", "froms", "cashie"}) {
            Check.good("law late 7;till " + yes + " is set;cashier a;call a " + yes + " see 1 from 2 open", 1);
            Check.good("law late 7;till t is set;cashier " + yes + ";call " + yes + " t see 1 from 2 to 3 told 4", 1);
        }
    }

    private static void namesAreToldOnce() {
        Check.fault("till t is set;till t is set", 3, 19);
        Check.fault("till t is set;till u is set;till t", 3, 33);
        Check.fault("till t is set;cashier t", 3, 22);
        Check.fault("till t is set;cashier a,t", 3, 24);
        Check.fault("cashier a;till a is set", 3, 15);
        Check.fault("cashier a,a", 3, 10);
        Check.fault("cashier a,b,c,d;till d", 3, 21);
        Check.fault("cashier a;cashier b;cashier a", 3, 28);
        Check.good("cashier a;cashier b;cashier aa;law late 7;till ab is set", 0);
    }

    private static void namesAreToldAheadOfTheirUse() {
        Check.fault("call a t see 1 from 0 open;cashier a;till t is set", 2, 5);
        Check.fault("cashier a;call a t see 1 from 0 open;till t is set", 2, 17);
        Check.fault("till t is set;call a t see 1 from 0 open;cashier a", 2, 19);
        Check.good("cashier a;till t is set;call a t see 1 from 0 open;law late 7", 1);
        after(HEAD, "call x d see", 2, 5);
        after(HEAD, "call d d see", 2, 5);
        after(HEAD, "call a x see", 2, 7);
        after(HEAD, "call a b see", 2, 7);
        after(HEAD, "call a a see", 2, 7);
    }

    private static void beginsBehindTheEndAhead() {
        String one = HEAD + "call a d see from 5 to 7 told 0;";
        Check.good(one + "call a d see from 8 to 8 told 0", 2);
        Check.good(one + "call a d see from 8 open", 2);
        after(one, "call a d see from 7 to 8 told 0", 4, 18);
        after(one, "call a d see from 7 open", 4, 18);
        after(one, "call a d see from 6 to 9 told 0", 4, 18);
        after(one, "call a d see from 0 to", 4, 18);
        Check.good(one + "call b d see from 7 to 8 told 0", 2);
        Check.good(one + "call b d see from 0 to 0 told 0", 2);
        String two = one + "call b d see from 900 to 990 told 0;";
        Check.good(two + "call a d see from 8 open", 3);
        after(two, "call a d see from 7 open", 4, 18);
        after(two, "call b d see from 990 open", 4, 18);
        Check.good(two + "call b d see from 991 open", 3);
        String last = HEAD + "call a d see from 0 to 999 told 0;";
        after(last, "call a d see from 999 open", 4, 18);
        String first = HEAD + "call a d see from 0 to 0 told 0;";
        after(first, "call a d see from 0 open", 4, 18);
        Check.good(first + "call a d see from 1 open", 2);
    }

    private static void noneBehindAnOpenOne() {
        String open = HEAD + "call a d see from 5 open;";
        after(open, "call a d see from 6 to 7 told 0", 4, 5);
        after(open, "call a", 4, 5);
        after(open, "call a x", 4, 5);
        Check.good(open + "call b d see from 5 open", 2);
        after(open + "call b d see from 5 open;", "call b", 4, 5);
        after(open, "call x", 2, 5);
    }

    /** The end is a TOKEN with which no BOOK goes on, unless a LINE is whole there. */
    private static void formAtTheEnd() {
        String line = "call a d put 3 from 4 to 5 told 6";
        for (int n = 0; n < line.length() - 1; n++) {
            String cut = line.substring(0, n);
            OneTill x = new OneTill();
            Check.refused(cut, x, Check.book(x, HEAD + cut), 4);
            Check.due(cut + " fault", x.fault(), 1);
            // a word cut short is at its first letter, if it is none that may stand there
            int at = cut.matches(".*(^| )(c|ca|cal|p|pu|f|fr|fro|t|to|tol)") && !cut.endsWith("4 to")
                    ? cut.lastIndexOf(' ') + 1 : n;
            Check.due(cut + " where", x.where(), HEAD.length() + at);
        }
        Check.fault("law late 7;", 1, 11);
        Check.fault("law late 7;   ", 1, 14);
        after(HEAD, "", 1, 0);
        after(HEAD, "     ", 1, 5);
    }

    private static void theFirstFromTheLeft() {
        Check.fault("law late 100;till till", 4, 9);
        Check.fault("till till is set;law late 100", 1, 5);
        Check.fault("cashier a,a;law late 100;?", 3, 10);
        Check.fault("law late 7;?", 1, 11);
        Check.fault("?;law", 1, 0);
        after(HEAD, "call x y give", 2, 5);
        after(HEAD, "call a y give", 2, 7);
        after(HEAD, "call a d give 10 from", 1, 9);
        after(HEAD, "call a d put 10 of", 4, 13);
        after(HEAD, "call a d see from 5 to 4 told 100", 4, 23);
        after(HEAD, "till e is set;cashier c,d,e", 5, 0);
        Check.fault("till d is set;cashier a,b,c,e,f,f", 5, 30);
    }

    private static void ofOnePlaceTheLeastNumber() {
        // told again, and one more than there is room for
        Check.fault("cashier a,b,c,d,a", 3, 16);
        Check.fault("till t is set;cashier a,b,c,d,t", 3, 30);
        // no NAME, and one more than there is room for
        Check.fault("cashier a,b,c,d,law", 1, 16);
        Check.fault("cashier a,b,c,d,7", 1, 16);
        Check.fault("cashier a,b,c,d,", 1, 16);
        // too many digits, and out of bounds
        Check.fault("law late 1000", 1, 9);
        // the end, and what is lacking
        Check.fault("law late 7;", 1, 11);
        Check.fault("law late", 1, 8);
        Check.fault("", 1, 0);
        // out of bounds, and not behind the end ahead
        after(HEAD + "call a d see from 5 to 7 told 0;", "call a d see from 0007", 1, 18);
        // a NAME of another sort
        after(HEAD + "call a d see from 5 open;", "call d d", 2, 5);
    }

    private static void lacks() {
        String law = "law late 7";
        String till = "till t is set";
        String cashier = "cashier a";
        Check.good(law + ";" + till + ";" + cashier, 0);
        Check.good(cashier + ";" + till + ";" + law, 0);
        Check.fault(law, 6, 10);
        Check.fault(till, 6, 13);
        Check.fault(cashier, 6, 9);
        Check.fault(law + ";" + till, 6, 24);
        Check.fault(law + ";" + cashier, 6, 20);
        Check.fault(till + ";" + cashier, 6, 23);
        Check.fault(till + ";" + cashier + "   ", 6, 26);
        Check.fault(till + ";" + cashier + ";call a t see 1 from 2 open", 6, 50);
    }
}
