/** The document's edges of what is SEEN, and promises 21 to 24, sentence by sentence. */
final class EdgeSeenTest {
    private static final String TEXT = "canton 5 1;man 0 0;man 4 1;fall 0 1 5;fall 23 3 6;";

    private EdgeSeenTest() {
    }

    public static void main(String[] args) {
        seeRefused();
        seeEight();
        seeHours();
        seeNobodys();
        seeNow();
        seeAfterAnAct();
        hatsOfAll();
        hatsAnotherThanItIs();
        hatsFirst();
        hatsByKind();
        hatsWithout();
        hatsByOneAlone();
        lookNext();
        lookInSixHours();
        lookOfLikeOnes();
        lookByTheLargestHat();
        lookNone();
        forget();
        wrongInputs();
        Check.end("EdgeSeenTest");
    }

    private static SnowCanton small() {
        SnowCanton x = Check.told(TEXT);
        Check.is("hour", 1, () -> x.hours(1));
        return x;
    }

    // Promise 21: "NONE (STATUS 2): .. not 1 to 24 HOURS, no such PERSON (NONE: nobody's). NoSuchElementException (ahead): no such CELL."
    private static void seeRefused() {
        int[] noHours = {0, -1, 25, Integer.MIN_VALUE, Integer.MAX_VALUE};
        for (int n : noHours) {
            Check.refused(EdgeSeenTest::small, "see in " + n, 2, x -> x.see(0, n, 0));
            Check.refused(EdgeSeenTest::small, "see nobody's in " + n, 2, x -> x.see(4, n, -1));
        }
        int[] nobody = {2, 8, -2, Integer.MIN_VALUE, Integer.MAX_VALUE};
        for (int n : nobody) {
            Check.refused(EdgeSeenTest::small, "see of " + n, 2, x -> x.see(0, 1, n));
        }
        int[] noCell = {-1, 5, 25, Integer.MIN_VALUE, Integer.MAX_VALUE};
        for (int n : noCell) {
            Check.leaves(EdgeSeenTest::small, "see " + n, Check.NO_SUCH, x -> x.see(n, 1, 0));
            Check.leaves(EdgeSeenTest::small, "no such cell is ahead", Check.NO_SUCH, x -> x.see(n, 0, 9));
        }
        Check.leaves(() -> eight(), "no such cell is ahead of eight", Check.NO_SUCH, x -> x.see(5, 1, 0));
    }

    private static SnowCanton eight() {
        SnowCanton x = small();
        for (int i = 0; i < 8; i++) {
            x.see(i % 5, 1 + i, i % 3 - 1);
        }
        return x;
    }

    // "SEEN (at most 8)", "SEEN: how much is", "there are 8".
    private static void seeEight() {
        SnowCanton x = small();
        for (int i = 1; i <= 8; i++) {
            int due = i;
            Check.is("seen " + i, due, () -> x.see(4, 24, -1));
            Check.is("counted", due, () -> x.count(11));
        }
        Check.is("the ninth", -1, () -> x.see(4, 24, -1));
        Check.is("eight still", 8, () -> x.count(11));
        Check.is("one refused", 1, () -> x.count(15));
        Check.is("no act was refused", 0, () -> x.count(14));
        Check.is("it is no act", 1, () -> x.count(10));
        Check.refused(EdgeSeenTest::eight, "a ninth", 2, y -> y.see(0, 1, 0));
        Check.refused(EdgeSeenTest::eight, "a ninth that is wrong", 2, y -> y.see(0, 0, 5));
        SnowCanton z = eight();
        z.forget();
        Check.is("forgotten, the first again", 1, () -> z.see(0, 1, 0));
    }

    // "in so many HOURS (1 to 24) from now".
    private static void seeHours() {
        SnowCanton x = Check.told(TEXT);
        Check.is("3 is man 1's in 24, hour 23 being the 24th", 1, () -> x.see(3, 24, 1));
        Check.is("so without", 1, () -> x.hat(2));
        SnowCanton y = Check.told(TEXT);
        Check.is("not in 23", 1, () -> y.see(3, 23, 1));
        Check.is("not so without", 0, () -> y.hat(2));
        Check.is("by none", 0, () -> y.hat(0));
        SnowCanton z = Check.told(TEXT);
        Check.is("nobody's in 23", 1, () -> z.see(3, 23, -1));
        Check.is("so without", 1, () -> z.hat(2));
        SnowCanton w = Check.told(TEXT);
        Check.is("1 is nobody's in 1", 1, () -> w.see(1, 1, -1));
        Check.is("so without", 1, () -> w.hat(2));
        Check.is("two things at two times", 2, () -> w.see(3, 24, 1));
        Check.is("so without", 1, () -> w.hat(2));
        Check.is("one of them wrong", 3, () -> w.see(3, 2, 1));
        Check.is("not so without", 0, () -> w.hat(2));
    }

    // "or nobody's (PERSON NONE; also without one)".
    private static void seeNobodys() {
        SnowCanton x = Check.told("canton 3 1;man 0 0;fall 0 2 5;");
        Check.is("a heap that is nobody's", 1, () -> x.see(2, 1, -1));
        Check.is("a cell without one", 2, () -> x.see(1, 1, -1));
        Check.is("both so", 1, () -> x.hat(2));
        Check.is("man 0's", 3, () -> x.see(1, 1, 0));
        Check.is("not where none lies", 0, () -> x.hat(2));
        SnowCanton y = Check.told("canton 3 1;man 0 0;fall 0 2 5;");
        Check.is("nor of a heap of nobody's", 1, () -> y.see(2, 1, 0));
        Check.is("not so", 0, () -> y.hat(2));
        Check.is("but by hats 2 and 3", 2, () -> y.hat(0));
    }

    /** A heap that lies already is whose it is by any hat. */
    private static void seeNow() {
        SnowCanton x = Check.told("canton 3 1;man 0 1;fall 0 1 5;fall 1 2 5;");
        Check.is("hour", 1, () -> x.hours(1));
        Check.is("1 is man 0's", 1, () -> x.see(1, 24, 0));
        Check.is("by any hat", 3, () -> x.hat(0));
        Check.is("2 is nobody's in 1", 2, () -> x.see(2, 1, -1));
        Check.is("so without", 1, () -> x.hat(2));
        Check.is("by 0", 1, () -> x.hat(0));
        Check.is("the first", 0, () -> x.hat(1));
    }

    private static void seeAfterAnAct() {
        SnowCanton x = Check.told("canton 3 1;man 0 0;fall 3 0 5;");
        Check.is("0 is man 0's in 2", 1, () -> x.see(0, 2, 0));
        Check.is("not yet", 0, () -> x.hat(2));
        Check.is("two hours", 2, () -> x.hours(2));
        Check.is("in 2 from now", 1, () -> x.hat(2));
        Check.is("walks", 0, () -> x.walk(0, 1));
        Check.is("not from there", 0, () -> x.hat(2));
        Check.is("but by hats 1 to 3", 3, () -> x.hat(0));
        Check.is("undo", 1, x::undo);
        Check.is("from here", 1, () -> x.hat(2));
        Check.is("undo", 0, x::undo);
        Check.is("not yet", 0, () -> x.hat(2));
        Check.is("it is seen still", 1, () -> x.count(11));
    }

    // Promise 22: "PEOPLE and HATS (0 to 3, another one than it is) .. how many".
    private static void hatsOfAll() {
        for (int people = 0; people <= 8; people++) {
            int due = 3 * people;
            SnowCanton x = Check.told("plough 0 3;".repeat(people));
            Check.is("nothing seen, people " + people, due, () -> x.hat(0));
            Check.is("the first of them", people == 0 ? -1 : 0, () -> x.hat(1));
            Check.is("so without", 1, () -> x.hat(2));
        }
    }

    // "another one than it is".
    private static void hatsAnotherThanItIs() {
        for (int hat = 0; hat <= 3; hat++) {
            SnowCanton x = Check.told("canton 5 1;man 0 " + hat + ";fall 0 1 1;fall 0 2 1;fall 0 3 1;");
            int first = hat == 0 ? 1 : 0;
            Check.is("three others than " + hat, 3, () -> x.hat(0));
            Check.is("the first", first, () -> x.hat(1));
            Check.is("1 is his", 1, () -> x.see(1, 1, 0));
            Check.is("2 is not", 2, () -> x.see(2, 1, -1));
            int due = hat == 1 ? 0 : 1;
            Check.is("hat 1, if it is not " + hat, due, () -> x.hat(0));
            Check.is("the first", due == 1 ? 1 : -1, () -> x.hat(1));
            Check.is("so without", 1 - due, () -> x.hat(2));
        }
    }

    // "the first (10 by who, and HAT)".
    private static void hatsFirst() {
        SnowCanton x = Check.told("canton 5 1;" + "man 0 0;".repeat(7) + "man 4 0;fall 0 1 1;fall 1 0 1;");
        Check.is("1 is the eighth's", 1, () -> x.see(1, 1, 7));
        Check.is("by hat 3 alone", 1, () -> x.hat(0));
        Check.is("73", 73, () -> x.hat(1));
        SnowCanton y = Check.told("canton 5 1;man 0 0;man 4 0;man 2 0;fall 0 3 1;");
        Check.is("3 is nobody's", 1, () -> y.see(3, 1, -1));
        Check.is("man 0 by 1 and 2, the others by none", 2, () -> y.hat(0));
        Check.is("the first", 1, () -> y.hat(1));
        SnowCanton z = Check.told("canton 5 1;man 0 0;man 4 0;man 2 0;fall 0 3 1;");
        Check.is("3 is man 2's", 1, () -> z.see(3, 1, 2));
        Check.is("by any other hat", 3, () -> z.hat(0));
        Check.is("21", 21, () -> z.hat(1));
    }

    /** Of a plough a hat is nothing but what FIRST makes of it; of a child 1 more in even hours; of a roof as of a man. */
    private static void hatsByKind() {
        SnowCanton x = Check.told("canton 3 1;plough 0 0;fall 0 1 1;");
        Check.is("1 is the plough's", 1, () -> x.see(1, 1, 0));
        Check.is("by no hat", 0, () -> x.hat(0));
        SnowCanton y = Check.told("canton 3 1;man 0 1;plough 0 0;fall 0 0 1;first hat;");
        Check.is("0 is the plough's", 1, () -> y.see(0, 1, 1));
        Check.is("by 2 and 3, or man 0 by none (of like ones the least)", 2, () -> y.hat(0));
        Check.is("12", 12, () -> y.hat(1));
        SnowCanton z = Check.told("canton 5 1;child 0 0;fall 0 2 1;fall 1 3 1;");
        Check.is("2 is the child's in an even hour", 1, () -> z.see(2, 1, 0));
        Check.is("3 is not in an odd one", 2, () -> z.see(3, 2, -1));
        Check.is("by 1 and 2", 2, () -> z.hat(0));
        Check.is("1", 1, () -> z.hat(1));
        SnowCanton w = Check.told("canton 3 1;roof 0 0;fall 0 2 1;");
        Check.is("2 is the roof's", 1, () -> w.see(2, 1, 0));
        Check.is("by 2 and 3", 2, () -> w.hat(0));
    }

    // "whether it is so without (1)".
    private static void hatsWithout() {
        SnowCanton x = Check.told(TEXT);
        Check.is("1 is man 0's", 1, () -> x.see(1, 1, 0));
        Check.is("not so without", 0, () -> x.hat(2));
        Check.is("by 1, 2 and 3", 3, () -> x.hat(0));
        SnowCanton y = Check.told(TEXT);
        Check.is("1 is nobody's", 1, () -> y.see(1, 1, -1));
        Check.is("so without", 1, () -> y.hat(2));
        Check.is("by man 1's 0 and 2 alone", 2, () -> y.hat(0));
    }

    /** One hat alone is another one: two would be needed here. */
    private static void hatsByOneAlone() {
        SnowCanton x = Check.told("canton 4 1;man 0 0;man 3 0;fall 0 1 1;fall 0 2 1;");
        Check.is("1 is man 0's", 1, () -> x.see(1, 1, 0));
        Check.is("by 1 to 3", 3, () -> x.hat(0));
        Check.is("2 is man 1's", 2, () -> x.see(2, 1, 1));
        Check.is("by none alone", 0, () -> x.hat(0));
        Check.is("no first", -1, () -> x.hat(1));
        Check.is("not without", 0, () -> x.hat(2));
    }

    // Promise 23: "the CELL whose owner in 6 HOURS by these would be most unlike (nobody is one ..): how many".
    private static void lookNext() {
        SnowCanton x = Check.told("canton 5 1;man 0 0;man 4 0;fall 0 2 1;");
        // By man 0's 2 and 3: his; by man 1's 2 and 3: his; by 1: nobody's.
        Check.is("nobody is one", 3, () -> x.look(1));
        Check.is("cell 2", 2, () -> x.look(0));
        Check.is("2 is not nobody's", 1, () -> x.see(2, 1, 0));
        Check.is("one owner", 1, () -> x.look(1));
        Check.is("of like ones the least", 0, () -> x.look(0));
        SnowCanton y = Check.told("canton 3 1;man 0 3;fall 0 2 1;");
        Check.is("by 0 and 1 nobody's, by 2 his", 2, () -> y.look(1));
        Check.is("cell 2", 2, () -> y.look(0));
        StringBuilder text = new StringBuilder("canton 1 1;");
        for (int p = 0; p < 8; p++) {
            text.append("man 0 0;");
        }
        SnowCanton all = Check.told(text + "fall 0 0 1;first hat;");
        Check.is("eight owners", 8, () -> all.look(1));
        Check.is("0", 0, () -> all.look(0));
        SnowCanton nine = Check.told("canton 5 1;man 0 0;man 4 0;man 0 0;man 4 0;man 0 0;man 4 0;man 0 0;man 4 0;fall 0 2 1;");
        Check.is("eight and nobody", 9, () -> nine.look(1));
        Check.is("2", 2, () -> nine.look(0));
    }

    private static void lookInSixHours() {
        SnowCanton x = Check.told("canton 5 1;man 0 0;fall 5 2 1;");
        Check.is("hour 5 is in", 2, () -> x.look(1));
        Check.is("cell 2", 2, () -> x.look(0));
        SnowCanton y = Check.told("canton 5 1;man 0 0;fall 6 2 1;");
        Check.is("hour 6 is not", 1, () -> y.look(1));
        Check.is("cell 0", 0, () -> y.look(0));
        Check.is("hour", 1, () -> y.hours(1));
        Check.is("from now on it is", 2, () -> y.look(1));
        Check.is("nothing is kept", 1, () -> y.count(4));
        Check.is("1 is nobody's in 24", 1, () -> y.see(1, 24, -1));
        Check.is("in 6 hours, not in 24", 2, () -> y.look(0));
        SnowCanton z = Check.told("canton 5 1;man 0 0;fall 6 2 1;");
        Check.is("1 is nobody's in 1", 1, () -> z.see(1, 1, -1));
        Check.is("6 hours from now, not from what is seen", 1, () -> z.look(1));
        Check.is("cell 0", 0, () -> z.look(0));
    }

    // "of like ones the least".
    private static void lookOfLikeOnes() {
        SnowCanton x = Check.told("canton 5 1;man 0 0;fall 0 2 1;fall 0 3 1;fall 1 1 1;");
        Check.is("1, 2 and 3 are alike but for 1", 2, () -> x.look(0));
        Check.is("by hat 1 cell 1 is his as by the others", 2, () -> x.look(1));
        SnowCanton y = Check.told("canton 5 5;man 24 0;fall 0 22 1;");
        Check.is("22 alone", 22, () -> y.look(0));
        SnowCanton z = Check.told("canton 5 5;man 24 3;fall 0 24 1;");
        Check.is("all alike", 0, () -> z.look(0));
        Check.is("one each", 1, () -> z.look(1));
    }

    /** Hat 3 is one of these, and the hat that it is is none. */
    private static void lookByTheLargestHat() {
        SnowCanton x = Check.told("canton 5 1;man 0 0;fall 0 3 1;");
        Check.is("by 3 it is his", 2, () -> x.look(1));
        Check.is("cell 3", 3, () -> x.look(0));
        SnowCanton y = Check.told("canton 5 1;man 0 3;fall 0 3 1;");
        Check.is("by none of 0, 1 and 2", 1, () -> y.look(1));
        Check.is("cell 0", 0, () -> y.look(0));
        SnowCanton z = Check.told("canton 5 1;man 0 0;fall 0 1 1;");
        Check.is("by all of 1, 2 and 3", 1, () -> z.look(1));
    }

    // "none without any".
    private static void lookNone() {
        SnowCanton nobody = Check.told("fall 0 0 1;");
        Check.is("nobody", -1, () -> nobody.look(0));
        Check.is("0", 0, () -> nobody.look(1));
        SnowCanton x = Check.told(TEXT);
        Check.is("what can't be", 1, () -> x.see(4, 1, 0));
        Check.is("none", -1, () -> x.look(0));
        Check.is("0", 0, () -> x.look(1));
        SnowCanton y = Check.told("canton 3 1;man 0 1;fall 0 1 1;fall 0 2 1;");
        Check.is("so without", 1, () -> y.see(1, 1, 0));
        Check.is("only without", 2, () -> y.see(2, 1, -1));
        Check.is("so without", 1, () -> y.hat(2));
        Check.is("none of these, though so without", -1, () -> y.look(0));
        Check.is("0", 0, () -> y.look(1));
    }

    // Promise 24: "All that is SEEN is forgotten."
    private static void forget() {
        SnowCanton x = eight();
        x.see(0, 0, 0);
        Check.is("none by all that", 0, () -> x.hat(0));
        x.forget();
        Check.is("nothing is seen", 0, () -> x.count(11));
        Check.is("all hats", 6, () -> x.hat(0));
        Check.is("so without", 1, () -> x.hat(2));
        Check.is("what was refused stays", 1, () -> x.count(15));
        Check.is("acts stay", 1, () -> x.count(10));
        Check.leaves(EdgeSeenTest::small, "nothing to forget", 0, y -> {
            y.forget();
            return 0;
        });
    }

    private static void wrongInputs() {
        int[] wrong = {-1, 3, Integer.MIN_VALUE, Integer.MAX_VALUE};
        for (int n : wrong) {
            Check.leaves(EdgeSeenTest::eight, "hat(" + n + ")", Check.NO_SUCH, x -> x.hat(n));
            Check.leaves(EdgeSeenTest::eight, "look(" + n + ")", Check.NO_SUCH, x -> x.look(n));
        }
        Check.leaves(EdgeSeenTest::eight, "look(2)", Check.NO_SUCH, x -> x.look(2));
        for (int what = 0; what < 3; what++) {
            int w = what;
            Check.leaves(EdgeSeenTest::small, "hat(" + what + ")", new int[] {6, 1, 1}[what], x -> x.hat(w));
        }
        Check.leaves(EdgeSeenTest::small, "look(0)", 0, x -> x.look(0));
        Check.leaves(EdgeSeenTest::small, "look(1)", 1, x -> x.look(1));
    }
}
