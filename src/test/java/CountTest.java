/** Promises 5 to 7: what is counted of the canton, of a cell, of a person. */
final class CountTest {
    private CountTest() {
    }

    public static void main(String[] args) {
        counts();
        poor();
        cells();
        touching();
        water();
        persons();
        wrongInputs();
        Check.end("CountTest");
    }

    private static void counts() {
        SnowCanton x = Check.told("canton 5 2;man 0 0;fall 0 0 10;fall 1 9 5;fall 1 9 6;");
        Check.is("W", 5, () -> x.count(0));
        Check.is("H", 2, () -> x.count(1));
        Check.is("people", 1, () -> x.count(2));
        Check.is("falls", 3, () -> x.count(3));
        Check.is("hours", 30, () -> x.hours(30));
        Check.is("the hour", 30, () -> x.count(4));
        Check.is("flakes", 42, () -> x.count(5));
        Check.is("nobody's", 22, () -> x.count(6));
        Check.is("cells with a heap", 1 + 512, () -> x.count(7));
        Check.is("poor", 0, () -> x.count(8));
        Check.is("thaw", 24, () -> x.thaw(12));
        Check.is("water of nobody", 12, () -> x.count(9));
        Check.is("acts", 2, () -> x.count(10));
        Check.is("see", 1, () -> x.see(0, 1, 0));
        Check.is("seen", 1, () -> x.count(11));
        Check.is("feed", 20, () -> x.feed(0, 0, 0, 0, 0));
        Check.is("tape", 20, () -> x.count(12));
        Check.is("a fault", 1, () -> x.canton(20));
        Check.is("texts refused", 1, () -> x.count(13));
        Check.is("hours refused", -1, () -> x.hours(0));
        Check.is("wind refused", -1, () -> x.wind(-1));
        Check.is("acts refused", 2, () -> x.count(14));
        Check.is("see refused", -1, () -> x.see(0, 0, 0));
        Check.is("see refused", -1, () -> x.see(0, 1, 1));
        Check.is("see refused", -1, () -> x.see(0, 1, -2));
        Check.is("seen refused", 3, () -> x.count(15));
    }

    private static void poor() {
        SnowCanton x = Check.told("canton 5 1;man 0 0;man 1 0;man 2 0;fall 0 0 70;fall 0 1 10;fall 0 4 99;fall 1 0 1;");
        Check.is("nobody has any: none is poor", 0, () -> x.count(8));
        Check.is("hour", 1, () -> x.hours(1));
        Check.is("10 of 80 is an eighth, nobody's not counted", 4, () -> x.count(8));
        Check.is("hour", 2, () -> x.hours(1));
        Check.is("10 of 81 is less", 6, () -> x.count(8));
    }

    private static void cells() {
        SnowCanton x = Check.told("canton 2 2;height 3 7;man 0 0;fall 0 0 4;fall 0 3 5;");
        Check.is("height", 7, () -> x.cell(3, 0));
        Check.is("height without", 0, () -> x.cell(2, 0));
        Check.is("no heap: whose", -1, () -> x.cell(0, 2));
        Check.is("hour", 1, () -> x.hours(1));
        Check.is("flakes", 4, () -> x.cell(0, 1));
        Check.is("whose", 0, () -> x.cell(0, 2));
        Check.is("nobody's flakes", 5, () -> x.cell(3, 1));
        Check.is("nobody's", -1, () -> x.cell(3, 2));
        Check.is("walks off", 0, () -> x.walk(0, 1));
        Check.is("on bare ground it would be nobody's", -1, () -> x.cell(0, 4));
        Check.is("the heap stays his", 0, () -> x.cell(0, 2));
        Check.is("day", 25, () -> x.hours(24));
        Check.is("what falls on it is his too", 8, () -> x.person(0, 3));
        Check.is("nobody's stays nobody's", 10, () -> x.count(6));
    }

    private static void touching() {
        SnowCanton x = Check.told("canton 5 5;man 12 1;child 12 1;roof 12 2;plough 12 3;man 0 0;");
        Check.is("at 12", 15, () -> x.cell(12, 3));
        Check.is("far 1", 7, () -> x.cell(7, 3));
        Check.is("far 2", 6, () -> x.cell(2, 3));
        Check.is("far 2 askew", 6, () -> x.cell(6, 3));
        Check.is("far 3", 0, () -> x.cell(1, 3));
        Check.is("at 0", 16, () -> x.cell(0, 3));
        Check.is("hour", 1, () -> x.hours(1));
        Check.is("a child in an odd hour", 4, () -> x.cell(2, 3));
        Check.is("a child in an odd hour, far 1", 7, () -> x.cell(7, 3));
        Check.is("an even hour of the next day", 26, () -> x.hours(25));
        Check.is("a child in an even hour", 6, () -> x.cell(2, 3));
    }

    private static void water() {
        // 5 5 5
        // 5 1 5   a pond in the midst; below it a row that runs to its least cell, 9
        // 5 6 5
        // 2 3 4
        SnowCanton x = Check.told("canton 3 4;height 0 5;height 1 5;height 2 5;height 3 5;height 4 1;height 5 5;"
                + "height 6 5;height 7 6;height 8 5;height 9 2;height 10 3;height 11 4;");
        int[] ends = {0, 4, 2, 4, 4, 4, 9, 4, 9, 9, 9, 9};
        for (int i = 0; i < ends.length; i++) {
            int c = i;
            Check.is("water from " + c, ends[c], () -> x.cell(c, 5));
            Check.is("sea from " + c, ends[c] == 4 ? 0 : 1, () -> x.cell(c, 6));
        }
        SnowCanton y = Check.told("canton 3 3;height 4 9;height 1 3;height 3 3;height 5 3;height 7 3;");
        Check.is("of like ones the least", 0, () -> y.cell(4, 5));
        SnowCanton z = Check.told("canton 3 3;height 4 9;height 1 4;height 3 3;height 5 3;height 7 3;");
        Check.is("least by height", 0, () -> z.cell(4, 5));
        SnowCanton w = Check.told("canton 3 3;height 4 9;height 1 4;height 3 4;height 5 3;height 7 3;");
        Check.is("5 ahead of 7, then 2", 2, () -> w.cell(4, 5));
    }

    private static void persons() {
        SnowCanton x = Check.told("canton 5 3;child 7 3;roof 2 1;fall 0 5 1;fall 0 6 2;fall 0 8 3;fall 0 9 4;fall 0 4 5;fall 0 2 6;fall 0 11 7;");
        Check.is("kind", 1, () -> x.person(0, 0));
        Check.is("cell", 7, () -> x.person(0, 1));
        Check.is("hat", 3, () -> x.person(0, 2));
        Check.is("no flakes yet", 0, () -> x.person(0, 3));
        Check.is("no companies yet", 0, () -> x.person(0, 6));
        Check.is("no cells in one yet", 0, () -> x.person(0, 7));
        Check.is("hour", 1, () -> x.hours(1));
        Check.is("flakes", 22, () -> x.person(0, 3));
        Check.is("cells", 1 << 5 | 1 << 6 | 1 << 8 | 1 << 9 | 1 << 4 | 1 << 11, () -> x.person(0, 4));
        Check.is("companies", 2, () -> x.person(0, 6));
        Check.is("most cells in one", 3, () -> x.person(0, 7));
        Check.is("the roof's companies", 1, () -> x.person(1, 6));
        Check.is("thaw, 6 and 8 being ponds", 1 + 2 + 2 + 2 + 2, () -> x.thaw(2));
        Check.is("water of the child", 7, () -> x.person(0, 5));
        Check.is("water of the roof", 2, () -> x.person(1, 5));
        Check.is("companies after it", 2, () -> x.person(0, 6));
        Check.is("cells after it", 1 << 8 | 1 << 9 | 1 << 4 | 1 << 11, () -> x.person(0, 4));
    }

    private static void wrongInputs() {
        SnowCanton x = Check.told("canton 2 2;man 0 0;");
        int[] wrongWhats = {-1, 16, Integer.MIN_VALUE, Integer.MAX_VALUE};
        for (int what : wrongWhats) {
            Check.is("count " + what, Check.NO_SUCH, () -> x.count(what));
            Check.is("cell what " + what, Check.NO_SUCH, () -> x.cell(0, what));
            Check.is("person what " + what, Check.NO_SUCH, () -> x.person(0, what));
            Check.is("cell " + what, Check.NO_SUCH, () -> x.cell(what, 0));
            Check.is("person " + what, Check.NO_SUCH, () -> x.person(what, 0));
        }
        Check.is("cell 4", Check.NO_SUCH, () -> x.cell(4, 0));
        Check.is("cell what 7", Check.NO_SUCH, () -> x.cell(0, 7));
        Check.is("person 1", Check.NO_SUCH, () -> x.person(1, 0));
        Check.is("person what 8", Check.NO_SUCH, () -> x.person(0, 8));
    }
}
