/** Promise 32, told(): how many there are. */
public final class Promise32Test {
    public static void main(String[] args) {
        others();
        nothingIsThere();
        theFewest();
        theMost();
        hasNoTrouble();
        Check.end();
    }

    private static void all(String what, OneTill x, int... due) {
        for (int w = 0; w < due.length; w++) {
            Check.due(what + " told(" + w + ")", x.told(w), due[w]);
        }
    }

    private static void others() {
        OneTill[] both = {new OneTill(), Check.of(Books.SMALL)};
        for (OneTill x : both) {
            for (int w : new int[] {-1, 8, 9, Integer.MIN_VALUE, Integer.MAX_VALUE}) {
                Check.due("told(" + w + ")", x.told(w), -1);
            }
        }
    }

    private static void nothingIsThere() {
        OneTill x = new OneTill();
        all("new", x, 0, 0, 0, 0, 0, 0, 0, 0);
        x.feed(0, 0, 0, 0, 0);
        all("fed", x, 0, 0, 0, 0, 0, 0, 0, 20);
        x.book(20);
        all("a fault", x, 0, 0, 0, 0, 0, 0, 0, 0);
    }

    private static void theFewest() {
        all("a book", Check.of(Books.EMPTY), 1, 1, 0, 0, 0, 0, 0, 0);
    }

    private static void theMost() {
        StringBuilder text = new StringBuilder("law late 99;till t is set;till u is drawer;till v is queue;cashier a,b,c,d");
        for (int i = 0; i < 20; i++) {
            text.append(";call ").append("abcd".charAt(i % 4)).append(" u see from ").append(i);
            text.append(i < 16 ? " to " + i + " told 0" : " open");
        }
        OneTill x = Check.of(text.toString());
        x.seed(65536);
        x.mark();
        x.mark();
        x.mark();
        for (int i = 0; i < 45; i++) {
            x.feed(0, 0, 0, 0, 0);
        }
        all("the most", x, 3, 4, 20, 4, 99, 65536, 3, 900);
    }

    private static void hasNoTrouble() {
        OneTill x = Check.of(Books.SMALL);
        x.can(9);
        x.told(0);
        x.told(8);
        x.told(-1);
        Check.due("trouble stays", x.trouble(), 1);
        x.can(0);
        x.told(8);
        Check.due("trouble stays", x.trouble(), 0);
    }
}
