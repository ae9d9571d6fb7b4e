/** Promise 2, feed(): twenty bytes behind THE TAPE, and none where there would be more than 900. */
public final class Promise02Test {
    private static final int BLANKS = 0x20202020;

    public static void main(String[] args) {
        tellsHowManyThereAre();
        refusesMoreThan900();
        refusedBytesDontCome();
        putsEachNumbersHighestFirst();
        keepsBytesOfAllNumbers();
        comesBehindWhatIsThere();
        beginsAgainBehindABook();
        isNoCallWithATrouble();
        Check.end();
    }

    private static int blanks(OneTill x) {
        return x.feed(BLANKS, BLANKS, BLANKS, BLANKS, BLANKS);
    }

    private static void tellsHowManyThereAre() {
        OneTill x = new OneTill();
        for (int i = 1; i <= 45; i++) {
            Check.due("feed " + i, blanks(x), 20 * i);
            Check.due("told(7) " + i, x.told(7), 20 * i);
        }
    }

    private static void refusesMoreThan900() {
        OneTill x = new OneTill();
        for (int i = 1; i <= 44; i++) {
            blanks(x);
        }
        Check.due("880 bytes", x.told(7), 880);
        Check.due("the last twenty", blanks(x), 900);
        Check.due("twenty more", blanks(x), -1);
        Check.due("still", x.told(7), 900);
        Check.due("and again", x.feed(0, 0, 0, 0, 0), -1);
        Check.due("still", x.told(7), 900);
    }

    private static void refusedBytesDontCome() {
        OneTill x = new OneTill();
        StringBuilder text = new StringBuilder(Books.EMPTY);
        while (text.length() < 900) {
            text.append(' ');
        }
        Check.feed(x, text.toString());
        Check.due("full", x.told(7), 900);
        Check.due("more", x.feed(-1, -1, -1, -1, -1), -1);
        Check.fine("a book of 900 bytes", x, x.book(900), 0);
    }

    /** One byte that begins no TOKEN among nineteen blanks: its place is told. */
    private static void putsEachNumbersHighestFirst() {
        int[] no = {0, 31, 33, 43, 45, 47, 58, 60, 64, 65, 90, 91, 96, 123, 127, 128, 160, 255};
        for (int b : no) {
            for (int at = 0; at < 20; at++) {
                int[] five = {BLANKS, BLANKS, BLANKS, BLANKS, BLANKS};
                int shift = 24 - 8 * (at % 4);
                five[at / 4] = five[at / 4] & ~(255 << shift) | b << shift;
                OneTill x = new OneTill();
                Check.due("feed", x.feed(five[0], five[1], five[2], five[3], five[4]), 20);
                Check.refused("byte " + b + " at " + at, x, x.book(20), 4);
                Check.due("byte " + b + " at " + at + " fault", x.fault(), 1);
                Check.due("byte " + b + " at " + at + " where", x.where(), at);
            }
        }
    }

    /** "law late 9;till tab" "cdefgh is set;cashie" "r a;call a tabcdefgh" .. */
    private static void keepsBytesOfAllNumbers() {
        OneTill x = new OneTill();
        Check.due("feed", x.feed(0x6c617720, 0x6c617465, 0x20393b74, 0x696c6c20, 0x74616263), 20);
        Check.due("feed", x.feed(0x64656667, 0x20697320, 0x7365743b, 0x63617368, 0x69657220), 40);
        Check.due("feed", x.feed(0x613b6361, 0x6c6c2061, 0x20746162, 0x63646566, 0x67207075), 60);
        Check.due("feed", x.feed(0x74203720, 0x66726f6d, 0x20313233, 0x20746f20, 0x34353620), 80);
        Check.due("feed", x.feed(0x746f6c64, 0x20313b20, 0x20202020, 0xff00ff00, 0x80808080), 100);
        Check.fine("book", x, x.book(86), 1);
        Check.seen("", x, 0, 0, 0, 0, 7, 123, 456, 1);
        Check.due("law", x.told(4), 9);
    }

    private static void comesBehindWhatIsThere() {
        OneTill x = new OneTill();
        Check.feed(x, "law late 12;till tabc");
        Check.due("a second feed", x.told(7), 40);
        Check.refused("a book refused by 2", x, x.book(41), 2);
        Check.feed(x, "?");
        Check.due("behind it", x.told(7), 60);
        Check.refused("book", x, x.book(60), 4);
        Check.due("forty bytes ahead of it", x.where(), 40);
    }

    private static void beginsAgainBehindABook() {
        OneTill x = new OneTill();
        for (int i = 1; i <= 45; i++) {
            blanks(x);
        }
        Check.refused("blanks alone", x, x.book(900), 4);
        Check.due("where", x.where(), 900);
        Check.due("an empty tape", blanks(x), 20);
        for (int i = 2; i <= 45; i++) {
            blanks(x);
        }
        Check.due("full again", x.told(7), 900);
        Check.due("no room again", blanks(x), -1);
        OneTill y = Check.of(Books.EMPTY);
        Check.due("an empty tape behind a book", blanks(y), 20);
    }

    private static void isNoCallWithATrouble() {
        OneTill x = new OneTill();
        Check.refused("can", x, x.can(0), 1);
        for (int i = 1; i <= 45; i++) {
            blanks(x);
            Check.due("trouble", x.trouble(), 1);
        }
        Check.due("no room", blanks(x), -1);
        Check.due("trouble stays", x.trouble(), 1);
        Check.refused("book", x, x.book(900), 4);
        Check.due("where", x.where(), 900);
        blanks(x);
        Check.due("trouble stays", x.trouble(), 4);
        Check.due("where stays", x.where(), 900);
    }
}
