import java.nio.charset.StandardCharsets;
import java.util.NoSuchElementException;

/** Shows how a text becomes the BOOK, how the calls are asked and how a refusal is seen. */
public final class Example {
    public static void main(String[] args) {
        OneTill x = new OneTill();
        say("can(0) without a BOOK", x.can(0));
        say("trouble()", x.trouble());

        String text = "law late 1; till box is drawer; cashier ann, bob;"
            + "call ann box put 5 from 1 to 3 told 0;"
            + "call bob box see from 5 to 6 told 0;"
            + "call ann box put 7 from 6 open";
        say("bytes of THE TAPE", feed(x, text));
        say("book", x.book(text.length()));
        say("trouble()", x.trouble());
        say("fault()", x.fault());

        say("can(0)", x.can(0));
        say("can(1)", x.can(1));
        say("can(2)", x.can(2));
        say("size(0)", x.size(0));
        say("trouble()", x.trouble());
        say("bad(0)", x.bad(0));
        say("core(0)", x.core(0));
        say("mends()", x.mends());
        say("enough()", x.enough());
        say("could(0, 1)", x.could(0, 1));
        say("couldTell(0, 1, false)", x.couldTell(0, 1, false));
        say("couldTell(0, 1, true)", x.couldTell(0, 1, true));

        say("mark()", x.mark());
        say("answer(1, 7)", x.answer(1, 7));
        say("orders(0)", x.orders(0));
        for (int i = 0; i < x.size(0); i++) {
            say("order(0, " + i + ")", x.order(0, i));
        }
        say("led(0)", x.led(0));
        try {
            say("led(1)", x.led(1));
        } catch (NoSuchElementException e) {
            System.out.println("led(1) throws NoSuchElementException");
        }

        System.out.println("seed(21) " + x.seed(21));
        say("make(1, 7)", x.make(1, 7));
        say("can(0)", x.can(0));
        say("breaks(0, 1, 7)", x.breaks(0, 1, 7));
        System.out.println("back(0) " + x.back(0));
        say("told(2)", x.told(2));
        System.out.println("back(1) " + x.back(1));
        say("trouble()", x.trouble());

        String spoiled = "law late 1; till box is drawer; cashier ann; call bob";
        feed(x, spoiled);
        say("book of a spoiled text", x.book(spoiled.length()));
        say("trouble()", x.trouble());
        say("fault()", x.fault());
        say("where()", x.where());
        say("told(2)", x.told(2));
    }

    /** Feeds a text, twenty bytes a call, with blanks behind it to the full twenty. */
    private static int feed(OneTill x, String text) {
        byte[] bytes = text.getBytes(StandardCharsets.ISO_8859_1);
        int fed = 0;
        for (int i = 0; i < bytes.length; i += 20) {
            fed = x.feed(four(bytes, i), four(bytes, i + 4), four(bytes, i + 8), four(bytes, i + 12), four(bytes, i + 16));
        }
        return fed;
    }

    /** Four bytes as one number, the highest first. */
    private static int four(byte[] bytes, int at) {
        int number = 0;
        for (int i = at; i < at + 4; i++) {
            number = number << 8 | (i < bytes.length ? bytes[i] & 255 : ' ');
        }
        return number;
    }

    private static void say(String call, long answer) {
        System.out.println(call + " " + answer);
    }
}
