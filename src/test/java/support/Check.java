import java.nio.charset.StandardCharsets;
import java.util.NoSuchElementException;

/** Counts and prints what isn't as due; feeds texts. */
final class Check {
    private static int wrong = 0;
    private static int looked = 0;

    static void due(String what, long got, long want) {
        looked++;
        if (got != want) {
            wrong++;
            if (wrong <= 40) {
                System.out.println(what + " answered " + got + ", due is " + want);
            }
        }
    }

    static void due(String what, boolean got, boolean want) {
        due(what, got ? 1 : 0, want ? 1 : 0);
    }

    /** That an int call is refused: NONE, and this trouble. */
    static void refused(String what, OneTill x, long got, int trouble) {
        due(what, got, -1);
        due(what + " trouble", x.trouble(), trouble);
    }

    static void fine(String what, OneTill x, long got, long want) {
        due(what, got, want);
        due(what + " trouble", x.trouble(), 0);
    }

    /** That a boolean call is refused: false, and this trouble. */
    static void no(String what, OneTill x, boolean got, int trouble) {
        due(what, got, false);
        due(what + " trouble", x.trouble(), trouble);
    }

    static void yes(String what, OneTill x, boolean got) {
        due(what, got, true);
        due(what + " trouble", x.trouble(), 0);
    }

    /** That a text is no book: its fault, its place, and that nothing came of it. */
    static void fault(String text, int number, int place) {
        OneTill x = new OneTill();
        refused(text + " book", x, book(x, text), 4);
        due(text + " fault", x.fault(), number);
        due(text + " where", x.where(), place);
        due(text + " tape", x.told(7), 0);
        for (int w = 0; w < 7; w++) {
            due(text + " told " + w, x.told(w), 0);
        }
        refused(text + " no book", x, x.can(0), 1);
    }

    /** That a text is a book of so many calls. */
    static void good(String text, int calls) {
        OneTill x = new OneTill();
        fine(text + " book", x, book(x, text), calls);
        due(text + " fault", x.fault(), 0);
        due(text + " where", x.where(), -1);
        due(text + " told(2)", x.told(2), calls);
    }

    /** That a call of a book has a cashier, a till, an act, a whole, a begin, an end and an answer. */
    static void seen(String what, OneTill x, int c, int... due) {
        for (int w = 0; w < due.length; w++) {
            fine(what + " call(" + c + ", " + w + ")", x, x.call(c, w), due[w]);
        }
    }

    static void ledThrows(String what, OneTill x, int i) {
        boolean thrown = false;
        try {
            x.led(i);
        } catch (NoSuchElementException e) {
            thrown = true;
        }
        due(what + " led(" + i + ") throws", thrown, true);
    }

    static boolean wentWrong() {
        return wrong > 0;
    }

    static void end() {
        System.out.println(looked + " answers looked at, " + wrong + " not as due");
        if (wrong != 0 || looked == 0) {
            System.exit(1);
        }
    }

    /** Feeds a text of signs 0 to 255, with blanks behind it to the full twenty. */
    static void feed(OneTill x, String text) {
        byte[] bytes = text.getBytes(StandardCharsets.ISO_8859_1);
        for (int i = 0; i < bytes.length; i += 20) {
            int[] five = new int[5];
            for (int j = 0; j < 20; j++) {
                int b = i + j < bytes.length ? bytes[i + j] & 255 : ' ';
                five[j / 4] = five[j / 4] << 8 | b;
            }
            x.feed(five[0], five[1], five[2], five[3], five[4]);
        }
    }

    static int book(OneTill x, String text) {
        feed(x, text);
        return x.book(text.length());
    }

    static OneTill of(String text) {
        OneTill x = new OneTill();
        int n = book(x, text);
        if (n < 0) {
            due("book of " + text + " fault " + x.fault() + " at " + x.where(), n, 0);
        }
        return x;
    }
}
