/** Promises 8 to 13: hours, walking, wind, thaw, ploughs, and undoing them. */
final class ActsTest {
    private static final String ROW = "canton 3 1;man 0 1;child 2 0;plough 1 3;fall 0 0 5;fall 0 1 7;fall 0 2 9;";

    private ActsTest() {
    }

    public static void main(String[] args) {
        hours();
        latestHour();
        atMost9999();
        walk();
        wind();
        windUpAndDown();
        thaw();
        push();
        undo();
        fortyActs();
        refusals();
        Check.end("ActsTest");
    }

    private static void heap(SnowCanton x, int cell, int flakes, int whose) {
        Check.is("flakes of " + cell, flakes, () -> x.cell(cell, 1));
        Check.is("owner of " + cell, whose, () -> x.cell(cell, 2));
    }

    private static void hours() {
        SnowCanton x = Check.told(ROW);
        Check.is("one hour", 1, () -> x.hours(1));
        heap(x, 0, 5, 0);
        heap(x, 1, 7, 2);
        heap(x, 2, 9, 1);
        Check.is("the rest of the day", 24, () -> x.hours(23));
        Check.is("no more fell", 21, () -> x.count(5));
        Check.is("two days", 72, () -> x.hours(48));
        Check.is("three times in all", 63, () -> x.count(5));
        SnowCanton y = Check.told("canton 2 1;man 0 1;man 1 1;fall 0 0 5;fall 0 1 7;fall 0 0 1;first 0-has;");
        Check.is("falls in their order", 1, () -> y.hours(1));
        heap(y, 0, 6, 0);
        heap(y, 1, 7, 1);
    }

    private static void latestHour() {
        SnowCanton x = new SnowCanton();
        for (int i = 1; i <= 208; i++) {
            int due = 48 * i;
            Check.is("48 hours", due, () -> x.hours(48));
        }
        Check.is("16 more would be 10000", -1, () -> x.hours(16));
        Check.is("15 more", 9999, () -> x.hours(15));
        Check.is("one more", -1, () -> x.hours(1));
        Check.is("refused", 2, () -> x.count(14));
        Check.is("the hour", 9999, () -> x.count(4));
        Check.is("what would be is told still", -1, () -> x.covered(0));
    }

    private static void atMost9999() {
        SnowCanton x = Check.told("canton 2 1;plough 0 0;man 0 1;" + "fall 0 0 99;".repeat(24));
        Check.is("two days", 48, () -> x.hours(48));
        Check.is("flakes", 4752, () -> x.count(5));
        Check.is("four days", 96, () -> x.hours(48));
        Check.is("flakes", 9504, () -> x.count(5));
        Check.is("then", 9999, () -> x.then(0, 24));
        Check.is("to come all the same", 2376, () -> x.coming(0, 24));
        Check.is("six days", 144, () -> x.hours(48));
        Check.is("flakes", 9999, () -> x.count(5));
        Check.is("push", 9999, () -> x.push(0, 1));
        Check.is("a day", 168, () -> x.hours(24));
        Check.is("push", 2376, () -> x.push(0, 1));
        heap(x, 1, 9999, 0);
        heap(x, 0, 0, -1);
        Check.is("four days", 216, () -> x.hours(48));
        Check.is("four days", 264, () -> x.hours(48));
        Check.is("wind", 4999, () -> x.wind(1));
        heap(x, 1, 9752, 0);
        heap(x, 0, 4752, 0);
        Check.is("row to a full cell", 9999, () -> x.row(0, 1, -1));
    }

    private static void walk() {
        SnowCanton x = Check.told("canton 3 3;man 4 0;roof 4 0;plough 4 0;child 2 0;");
        int[] next = {1, 3, 5, 7};
        for (int to : next) {
            Check.is("to " + to, 4, () -> x.walk(0, to));
            Check.is("stands there", to, () -> x.person(0, 1));
            Check.is("back from " + to, to, () -> x.walk(0, 4));
        }
        int[] no = {0, 2, 4, 6, 8};
        for (int to : no) {
            Check.is("not to " + to, -1, () -> x.walk(0, to));
        }
        Check.is("a roof can't", -1, () -> x.walk(1, 1));
        Check.is("a plough can", 4, () -> x.walk(2, 1));
        Check.is("not round the edge", -1, () -> x.walk(3, 3));
        Check.is("refused", 7, () -> x.count(14));
        Check.is("acts", 9, () -> x.count(10));
        Check.is("no such person", Check.NO_SUCH, () -> x.walk(4, 1));
        Check.is("no such cell", Check.NO_SUCH, () -> x.walk(1, 9));
        Check.is("refused no more", 7, () -> x.count(14));
    }

    private static void wind() {
        SnowCanton x = Check.told(ROW);
        Check.is("hour", 1, () -> x.hours(1));
        Check.is("to the right", 4, () -> x.wind(1));
        heap(x, 0, 3, 0);
        heap(x, 1, 6, 2);
        heap(x, 2, 8, 1);
        Check.is("to the left", 1, () -> x.wind(3));
        heap(x, 0, 5, 0);
        heap(x, 1, 7, 2);
        heap(x, 2, 4, 1);
        Check.is("up", 2 + 3 + 2, () -> x.wind(0));
        SnowCanton y = Check.told("canton 3 1;man 0 0;roof 1 3;man 2 0;fall 0 0 3;first 0-hat;");
        Check.is("hour", 1, () -> y.hours(1));
        Check.is("to the right", 0, () -> y.wind(1));
        heap(y, 0, 2, 0);
        heap(y, 1, 1, 0);
        Check.is("half of 1 is none", 0, () -> y.wind(1));
        heap(y, 1, 2, 0);
        heap(y, 2, 0, -1);
    }

    private static void windUpAndDown() {
        SnowCanton x = Check.told("canton 2 3;man 0 0;man 5 0;fall 0 0 8;fall 0 5 9;fall 0 2 20;");
        Check.is("hour", 1, () -> x.hours(1));
        Check.is("down", 4, () -> x.wind(2));
        heap(x, 0, 4, 0);
        heap(x, 2, 14, -1);
        heap(x, 4, 10, -1);
        heap(x, 5, 5, 1);
        Check.is("up", 2, () -> x.wind(0));
        heap(x, 0, 2 + 7, 0);
        heap(x, 2, 7 + 5, -1);
        heap(x, 3, 2, 1);
        heap(x, 4, 5, -1);
        heap(x, 5, 3, 1);
        Check.is("nobody's", 17, () -> x.count(6));
    }

    private static void thaw() {
        SnowCanton x = Check.told("canton 3 3;height 0 2;height 1 2;height 2 2;height 3 2;height 5 2;height 6 2;height 7 2;"
                + "man 0 0;man 4 1;fall 0 0 50;fall 0 4 30;fall 0 1 20;fall 0 8 10;");
        Check.is("hour", 1, () -> x.hours(1));
        Check.is("from 0 and 8 to the sea", 15 + 10, () -> x.thaw(15));
        heap(x, 0, 35, 0);
        heap(x, 4, 15, 1);
        heap(x, 1, 5, 1);
        heap(x, 8, 0, -1);
        Check.is("water of 0", 15, () -> x.person(0, 5));
        Check.is("water of 1", 0, () -> x.person(1, 5));
        Check.is("water of nobody", 10, () -> x.count(9));
        Check.is("all", 35, () -> x.thaw(99));
        Check.is("water of 0", 50, () -> x.person(0, 5));
        Check.is("nothing lies", 0, () -> x.count(7));
        Check.is("it falls on bare ground again", 25, () -> x.hours(24));
        heap(x, 4, 30, 1);
    }

    private static void push() {
        SnowCanton x = Check.told(ROW);
        Check.is("nothing there yet", 0, () -> x.push(2, 0));
        Check.is("an act all the same", 1, () -> x.count(10));
        Check.is("hour", 1, () -> x.hours(1));
        Check.is("to the man's", 7, () -> x.push(2, 0));
        heap(x, 0, 12, 0);
        heap(x, 1, 0, -1);
        Check.is("walks there", 1, () -> x.walk(2, 0));
        Check.is("to a bare cell", 12, () -> x.push(2, 1));
        heap(x, 1, 12, 0);
        Check.is("no neighbour", -1, () -> x.push(2, 2));
        Check.is("where it stands", -1, () -> x.push(2, 0));
        Check.is("no plough", -1, () -> x.push(0, 1));
        Check.is("refused", 3, () -> x.count(14));
        Check.is("no such person", Check.NO_SUCH, () -> x.push(3, 0));
        Check.is("no such cell", Check.NO_SUCH, () -> x.push(0, -1));
        Check.is("refused no more", 3, () -> x.count(14));
    }

    private static void undo() {
        SnowCanton x = Check.told(ROW);
        x.hours(1);
        x.walk(2, 0);
        x.walk(2, 1);
        x.push(2, 2);
        x.thaw(3);
        x.wind(1);
        Check.is("water", 3, () -> x.person(1, 5));
        Check.is("wind", 5, x::undo);
        heap(x, 2, 13, 1);
        Check.is("thaw", 4, x::undo);
        heap(x, 2, 16, 1);
        heap(x, 0, 5, 0);
        Check.is("no water", 0, () -> x.person(1, 5));
        Check.is("push", 3, x::undo);
        heap(x, 1, 7, 2);
        Check.is("walk", 2, x::undo);
        Check.is("place", 0, () -> x.person(2, 1));
        Check.is("walk", 1, x::undo);
        Check.is("place", 1, () -> x.person(2, 1));
        x.wind(9);
        x.see(0, 1, 0);
        Check.is("hours", 0, x::undo);
        Check.is("hour", 0, () -> x.count(4));
        Check.is("no heaps", 0, () -> x.count(7));
        Check.is("refusals stay", 1, () -> x.count(14));
        Check.is("what is seen stays", 1, () -> x.count(11));
        Check.is("none", -1, x::undo);
        Check.is("that is no refusal", 1, () -> x.count(14));
    }

    private static void fortyActs() {
        SnowCanton x = new SnowCanton();
        for (int i = 1; i <= 45; i++) {
            x.hours(1);
            int due = Math.min(40, i);
            Check.is("acts after " + i, due, () -> x.count(10));
        }
        for (int i = 39; i >= 0; i--) {
            int due = i;
            Check.is("undo", due, x::undo);
        }
        Check.is("none", -1, x::undo);
        Check.is("the first five stay", 5, () -> x.count(4));
    }

    private static void refusals() {
        SnowCanton x = new SnowCanton();
        int[] noHours = {0, -1, 49, Integer.MIN_VALUE, Integer.MAX_VALUE};
        int[] noWays = {-1, 4, Integer.MIN_VALUE, Integer.MAX_VALUE};
        int[] noThaws = {0, -1, 100, Integer.MIN_VALUE, Integer.MAX_VALUE};
        for (int n : noHours) {
            Check.is("hours " + n, -1, () -> x.hours(n));
        }
        for (int n : noWays) {
            Check.is("wind " + n, -1, () -> x.wind(n));
        }
        for (int n : noThaws) {
            Check.is("thaw " + n, -1, () -> x.thaw(n));
        }
        Check.is("refused", 14, () -> x.count(14));
        Check.is("acts", 0, () -> x.count(10));
    }
}
