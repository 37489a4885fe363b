import java.nio.charset.StandardCharsets;

/** What the tests share: feeding texts, comparing answers, counting the wrong ones. */
final class Check {
    static final int NO_SUCH = -1001;
    static final int ILLEGAL = -1002;

    private static int wrong = 0;
    private static int asked = 0;

    private Check() {
    }

    interface Call {
        int answer();
    }

    /** A call's answer, or NO_SUCH or ILLEGAL if it throws. */
    static int of(Call call) {
        try {
            return call.answer();
        } catch (java.util.NoSuchElementException e) {
            return NO_SUCH;
        } catch (IllegalArgumentException e) {
            return ILLEGAL;
        }
    }

    static void is(String what, int due, Call call) {
        asked++;
        String got;
        try {
            int answer = of(call);
            if (answer == due) {
                return;
            }
            got = String.valueOf(answer);
        } catch (RuntimeException e) {
            got = e.toString();
        }
        wrong++;
        System.out.println(what + ": answered " + got + ", due is " + due);
    }

    static void holds(String what, boolean is) {
        asked++;
        if (!is) {
            wrong++;
            System.out.println(what + ": does not hold");
        }
    }

    static int bytes(String text, int at) {
        int number = 0;
        byte[] all = text.getBytes(StandardCharsets.ISO_8859_1);
        for (int i = at; i < at + 4; i++) {
            number = number << 8 | (i < all.length ? all[i] & 255 : ' ');
        }
        return number;
    }

    static void feed(SnowCanton x, String text) {
        for (int at = 0; at < text.length(); at += 20) {
            x.feed(bytes(text, at), bytes(text, at + 4), bytes(text, at + 8), bytes(text, at + 12), bytes(text, at + 16));
        }
    }

    /** Feeds a text and reads it. */
    static int read(SnowCanton x, String text) {
        feed(x, text);
        return x.canton(text.length());
    }

    /** A new object with a text that has no fault. */
    static SnowCanton told(String text) {
        SnowCanton x = new SnowCanton();
        is("canton of " + text, 0, () -> read(x, text));
        return x;
    }

    /** A text's fault and its place, on a new object. */
    static void fault(String text, int fault, int place) {
        SnowCanton x = new SnowCanton();
        is("canton of <" + text + ">", fault, () -> read(x, text));
        is("fault() of <" + text + ">", place, x::fault);
        is("count(13) after <" + text + ">", fault == 0 ? 0 : 1, () -> x.count(13));
    }

    static void end(String test) {
        System.out.println(test + ": " + asked + " asked, " + wrong + " wrong");
        if (wrong != 0 || asked == 0) {
            System.exit(1);
        }
    }
}
