import java.util.NoSuchElementException;

/** What the tests share: feeding texts, comparing answers, counting what is wrong. */
final class Check {
    /** A call that may throw. */
    interface Call {
        long answer();
    }

    static final String NO_SUCH = "throws.NoSuchElementException";
    static final String ILLEGAL = "throws.IllegalArgumentException";

    private static int asked = 0;
    private static int wrong = 0;
    private static boolean muted = false;

    private Check() {
    }

    /** Nothing is printed from now on, only counted. */
    static void mute() {
        muted = true;
    }

    static int asked() {
        return asked;
    }

    static int wrong() {
        return wrong;
    }

    /** One more answer that isn't as due. */
    static void fail(String what) {
        wrong++;
        if (!muted) {
            System.out.println(what);
        }
    }

    static void is(String what, long got, long due) {
        asked++;
        if (got != due) {
            fail(what + " answered " + got + ", due is " + due);
        }
    }

    static void is(String what, boolean got, boolean due) {
        is(what, got ? 1 : 0, due ? 1 : 0);
    }

    static void refused(String what, String due, Call call) {
        asked++;
        String got;
        try {
            got = "" + call.answer();
        } catch (NoSuchElementException e) {
            got = NO_SUCH;
        } catch (IllegalArgumentException e) {
            got = ILLEGAL;
        }
        if (!got.equals(due)) {
            fail(what + " answered " + got + ", due is " + due);
        }
    }

    static void none(String what, Call call) {
        refused(what, NO_SUCH, call);
    }

    static void illegal(String what, Call call) {
        refused(what, ILLEGAL, call);
    }

    private static int number(byte[] bytes, int at) {
        int number = 0;
        for (int i = at; i < at + 4; i++) {
            number = number << 8 | (i < bytes.length ? bytes[i] & 255 : 32);
        }
        return number;
    }

    /** Feeds the text, with blanks behind it up to a number of bytes by twenty. */
    static int feed(EndingTown x, String text) {
        byte[] bytes = text.getBytes(java.nio.charset.StandardCharsets.ISO_8859_1);
        int last = EndingTown.NONE;
        for (int at = 0; at < bytes.length; at += 20) {
            last = x.feed(number(bytes, at), number(bytes, at + 4), number(bytes, at + 8),
                    number(bytes, at + 12), number(bytes, at + 16));
        }
        return last;
    }

    static int village(EndingTown x, String text) {
        feed(x, text);
        return x.village(text.length());
    }

    static int apart(EndingTown x, String text) {
        feed(x, text);
        return x.apart(text.length());
    }

    static int utter(EndingTown x, int person, int hour, String text) {
        feed(x, text);
        return x.utter(person, hour, text.length());
    }

    /** A new object with that village, which must be without a fault. */
    static EndingTown of(String text) {
        EndingTown x = new EndingTown();
        int fault = village(x, text);
        if (fault != 0) {
            throw new IllegalStateException("fault " + fault + " at " + x.fault() + " of " + text);
        }
        return x;
    }

    /** The text without its bar has that fault where the bar is, and nothing of it is told. */
    static void fault(int due, String text) {
        String ahead = text.substring(0, text.indexOf('|'));
        String whole = ahead + text.substring(text.indexOf('|') + 1);
        EndingTown x = new EndingTown();
        is(text + " village", village(x, whole), due);
        is(text + " fault", x.fault(), ahead.length());
        is(text + " STATUS", x.count(8), 1);
        is(text + " stems", x.count(0), 0);
    }

    /** The text is without a fault. */
    static void fine(String text) {
        EndingTown x = new EndingTown();
        is(text + " village", village(x, text), 0);
        is(text + " fault", x.fault(), -1);
        is(text + " STATUS", x.count(8), 0);
    }

    static void end() {
        System.out.println(asked + " answers, " + wrong + " not as due");
        if (wrong != 0) {
            System.exit(1);
        }
    }
}
