import java.nio.charset.StandardCharsets;

/** What the tests share: feeding texts, comparing answers, counting the wrong ones. */
final class Check {
    static final int NO_SUCH = -1001;
    static final int ILLEGAL = -1002;

    private static int wrong = 0;
    private static int asked = 0;

    private Check() {
    }

    interface Call {
        int answer();
    }

    /** A call's answer, or NO_SUCH or ILLEGAL if it throws. */
    static int of(Call call) {
        try {
            return call.answer();
        } catch (java.util.NoSuchElementException e) {
            return NO_SUCH;
        } catch (IllegalArgumentException e) {
            return ILLEGAL;
        }
    }

    static void is(String what, int due, Call call) {
        asked++;
        String got;
        try {
            int answer = of(call);
            if (answer == due) {
                return;
            }
            got = String.valueOf(answer);
        } catch (RuntimeException e) {
            got = e.toString();
        }
        wrong++;
        System.out.println(what + ": answered " + got + ", due is " + due);
    }

    static void is(String what, String due, String got) {
        holds(what + ": is <" + got + ">, due is <" + due + ">", due.equals(got));
    }

    static void holds(String what, boolean is) {
        asked++;
        if (!is) {
            wrong++;
            System.out.println(what + ": does not hold");
        }
    }

    static int bytes(String text, int at) {
        int number = 0;
        byte[] all = text.getBytes(StandardCharsets.ISO_8859_1);
        for (int i = at; i < at + 4; i++) {
            number = number << 8 | (i < all.length ? all[i] & 255 : ' ');
        }
        return number;
    }

    static void feed(SnowCanton x, String text) {
        for (int at = 0; at < text.length(); at += 20) {
            x.feed(bytes(text, at), bytes(text, at + 4), bytes(text, at + 8), bytes(text, at + 12), bytes(text, at + 16));
        }
    }

    /** Feeds a text and reads it. */
    static int read(SnowCanton x, String text) {
        feed(x, text);
        return x.canton(text.length());
    }

    /** A new object with a text that has no fault. */
    static SnowCanton told(String text) {
        SnowCanton x = new SnowCanton();
        is("canton of " + text, 0, () -> read(x, text));
        return x;
    }

    /** A text's fault and its place, on a new object. */
    static void fault(String text, int fault, int place) {
        SnowCanton x = new SnowCanton();
        is("canton of <" + text + ">", fault, () -> read(x, text));
        is("fault() of <" + text + ">", place, x::fault);
        is("count(13) after <" + text + ">", fault == 0 ? 0 : 1, () -> x.count(13));
    }

    /** All that the calls tell of an object without changing it: counts, the fault's place, cells, people. */
    static String state(SnowCanton x) {
        StringBuilder s = new StringBuilder();
        for (int what = 0; what < 16; what++) {
            s.append(x.count(what)).append(' ');
        }
        s.append(x.fault());
        int cells = x.count(0) * x.count(1);
        for (int cell = 0; cell < cells; cell++) {
            s.append(" |");
            for (int what = 0; what < 7; what++) {
                s.append(' ').append(x.cell(cell, what));
            }
        }
        int people = x.count(2);
        for (int person = 0; person < people; person++) {
            s.append(" *");
            for (int what = 0; what < 8; what++) {
                s.append(' ').append(x.person(person, what));
            }
        }
        return s.toString();
    }

    /** Makes an object as a test needs it: an object lasts 512 calls, so each question gets a new one. */
    interface Maker {
        SnowCanton make();
    }

    interface Ask {
        int of(SnowCanton x);
    }

    /** A call that leaves all as it was, whatever it answers. */
    static void leaves(Maker maker, String what, int due, Ask ask) {
        SnowCanton x = maker.make();
        String before = state(x);
        is(what, due, () -> ask.of(x));
        String after = state(x);
        holds(what + " leaves <" + before + ">, not <" + after + ">", before.equals(after));
    }

    /** A call that answers NONE, counts in one STATUS (0 to 2) and leaves all else as it was. */
    static void refused(Maker maker, String what, int status, Ask ask) {
        SnowCanton x = maker.make();
        String[] due = state(x).split(" ");
        due[13 + status] = String.valueOf(Integer.parseInt(due[13 + status]) + 1);
        is(what, SnowCanton.NONE, () -> ask.of(x));
        String after = state(x);
        holds(what + " counts in STATUS " + status + " alone, not <" + after + ">", String.join(" ", due).equals(after));
    }

    static void end(String test) {
        System.out.println(test + ": " + asked + " asked, " + wrong + " wrong");
        if (wrong != 0 || asked == 0) {
            System.exit(1);
        }
    }
}
