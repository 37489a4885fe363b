/** Promises 21 to 24: what is seen, whose hat is another one, where to look next. */
final class SeenTest {
    private static final String TEXT = "canton 5 1;man 0 0;man 4 1;fall 0 1 5;fall 1 3 6;fall 4 2 7;";

    private SeenTest() {
    }

    public static void main(String[] args) {
        see();
        hat();
        hatOfNobody();
        look();
        fromNowOn();
        forget();
        wrongInputs();
        Check.end("SeenTest");
    }

    private static void see() {
        SnowCanton x = Check.told(TEXT);
        for (int i = 1; i <= 8; i++) {
            int due = i;
            Check.is("seen " + i, due, () -> x.see(0, due, due % 3 - 1));
        }
        Check.is("a ninth", -1, () -> x.see(0, 1, 0));
        Check.is("status", 1, () -> x.count(15));
        Check.is("seen", 8, () -> x.count(11));
        SnowCanton y = Check.told(TEXT);
        Check.is("0 hours", -1, () -> y.see(0, 0, 0));
        Check.is("25 hours", -1, () -> y.see(0, 25, 0));
        Check.is("24 hours", 1, () -> y.see(0, 24, 0));
        Check.is("no such person", -1, () -> y.see(0, 1, 2));
        Check.is("no such person", -1, () -> y.see(0, 1, -2));
        Check.is("status", 4, () -> y.count(15));
        Check.is("no such cell is ahead", Check.NO_SUCH, () -> y.see(5, 25, 9));
        Check.is("status stays", 4, () -> y.count(15));
        Check.is("seen is no act", 0, () -> y.count(10));
    }

    private static void hat() {
        SnowCanton x = Check.told(TEXT);
        Check.is("nothing seen: all", 6, () -> x.hat(0));
        Check.is("nothing seen: the first", 1, () -> x.hat(1));
        Check.is("nothing seen: so without", 1, () -> x.hat(2));
        Check.is("see: 1 is man 0's in an hour", 1, () -> x.see(1, 1, 0));
        Check.is("his hat is 1, 2 or 3", 3, () -> x.hat(0));
        Check.is("the first", 1, () -> x.hat(1));
        Check.is("not so without", 0, () -> x.hat(2));
        Check.is("see: 2 is his in five", 2, () -> x.see(2, 5, 0));
        Check.is("his hat is 2 or 3", 2, () -> x.hat(0));
        Check.is("the first", 2, () -> x.hat(1));
        Check.is("see: 2 is nobody's in four, there being none", 3, () -> x.see(2, 4, -1));
        Check.is("still", 2, () -> x.hat(0));
        Check.is("see: 3 is man 1's", 4, () -> x.see(3, 24, 1));
        Check.is("still, he is nearer", 2, () -> x.hat(0));
        Check.is("see: 0 is somebody's", 5, () -> x.see(0, 24, 1));
        Check.is("none", 0, () -> x.hat(0));
        Check.is("no first", -1, () -> x.hat(1));
        Check.is("hat is as it was", 0, () -> x.person(0, 2));
    }

    private static void hatOfNobody() {
        SnowCanton x = Check.told(TEXT);
        Check.is("see: 1 is nobody's", 1, () -> x.see(1, 1, -1));
        Check.is("not man 0 by any other, man 1 by 0 or 2", 2, () -> x.hat(0));
        Check.is("the first", 10, () -> x.hat(1));
        Check.is("so without", 1, () -> x.hat(2));
        Check.is("see: 3 is nobody's", 2, () -> x.see(3, 2, -1));
        Check.is("man 1 by 0", 1, () -> x.hat(0));
        Check.is("the first", 10, () -> x.hat(1));
        Check.is("not without", 0, () -> x.hat(2));
    }

    private static void look() {
        SnowCanton x = Check.told(TEXT);
        // 1: nobody, man 0, man 1 (by 3); 2: the same; 3: man 1 or nobody, or man 0 (by 3) that is farther
        Check.is("three owners", 3, () -> x.look(1));
        Check.is("cell 1", 1, () -> x.look(0));
        Check.is("see: 1 is nobody's", 1, () -> x.see(1, 1, -1));
        // man 1 by 0 (all nobody's) or by 2 (2 and 3 are his)
        Check.is("two owners", 2, () -> x.look(1));
        Check.is("cell 2, of like ones the least", 2, () -> x.look(0));
        Check.is("see: 3 is nobody's", 2, () -> x.see(3, 2, -1));
        Check.is("one owner", 1, () -> x.look(1));
        Check.is("cell 0", 0, () -> x.look(0));
        Check.is("see: 0 is man 1's", 3, () -> x.see(0, 2, 1));
        Check.is("none", -1, () -> x.look(0));
        Check.is("none: 0", 0, () -> x.look(1));
    }

    private static void fromNowOn() {
        SnowCanton x = Check.told(TEXT);
        Check.is("see: 2 is man 0's in four hours", 1, () -> x.see(2, 4, 0));
        Check.is("it doesn't fall so soon", 0, () -> x.hat(0));
        Check.is("an hour", 1, () -> x.hours(1));
        Check.is("in four hours from now on it does", 2, () -> x.hat(0));
        Check.is("the first", 2, () -> x.hat(1));
        SnowCanton y = Check.told("canton 3 1;man 1 0;fall 5 0 1;fall 6 2 1;");
        Check.is("in 6 hours only the first fell", 0, () -> y.look(0));
        Check.is("one owner, a hat of 0 being no other one", 1, () -> y.look(1));
        Check.is("an hour", 1, () -> y.hours(1));
        Check.is("one owner still", 1, () -> y.look(1));
    }

    private static void forget() {
        SnowCanton x = Check.told(TEXT);
        Check.is("see", 1, () -> x.see(0, 1, 1));
        Check.is("none", 0, () -> x.hat(0));
        x.forget();
        Check.is("seen", 0, () -> x.count(11));
        Check.is("all", 6, () -> x.hat(0));
        Check.is("see again", 1, () -> x.see(0, 1, 1));
    }

    private static void wrongInputs() {
        SnowCanton x = Check.told(TEXT);
        int[] wrong = {Integer.MIN_VALUE, Integer.MAX_VALUE, -1, 3};
        for (int n : wrong) {
            Check.is("hat " + n, Check.NO_SUCH, () -> x.hat(n));
            Check.is("look " + n, Check.NO_SUCH, () -> x.look(n));
        }
        Check.is("look 2", Check.NO_SUCH, () -> x.look(2));
        Check.is("see " + Integer.MIN_VALUE, Check.NO_SUCH, () -> x.see(Integer.MIN_VALUE, 1, 0));
        Check.is("see in " + Integer.MAX_VALUE, -1, () -> x.see(0, Integer.MAX_VALUE, 0));
        Check.is("see of " + Integer.MIN_VALUE, -1, () -> x.see(0, 1, Integer.MIN_VALUE));
    }
}
