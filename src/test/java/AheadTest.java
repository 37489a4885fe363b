/** Promises 14 to 20: trespass, and what would be if only hours went by. */
final class AheadTest {
    private AheadTest() {
    }

    public static void main(String[] args) {
        trespass();
        then();
        stand();
        covered();
        coming();
        row();
        rowWhereNoneLies();
        heir();
        nothingChanges();
        wrongInputs();
        Check.end("AheadTest");
    }

    private static void trespass() {
        // The column x = 1 is man 1's but for the lowest cell; nobody's lies in 12.
        SnowCanton x = Check.told("canton 4 4;man 0 0;man 5 1;man 15 0;"
                + "fall 0 1 1;fall 0 5 1;fall 0 9 1;fall 0 12 1;fall 0 15 1;");
        Check.is("hour", 1, () -> x.hours(1));
        Check.is("who owns 9", 1, () -> x.cell(9, 2));
        Check.is("round it: none", 0, () -> x.trespass(0, 2, 0));
        Check.is("round it: steps", 3 + 2 + 3, () -> x.trespass(0, 2, 1));
        Check.is("onto it: one", 1, () -> x.trespass(0, 5, 0));
        Check.is("onto it: steps", 2, () -> x.trespass(0, 5, 1));
        Check.is("to the corner: his", 1, () -> x.trespass(0, 15, 0));
        Check.is("to the corner: steps", 6, () -> x.trespass(0, 15, 1));
        Check.is("nobody's is no trespass", 0, () -> x.trespass(0, 12, 0));
        Check.is("where one stands", 0, () -> x.trespass(0, 0, 0));
        Check.is("where one stands: steps", 0, () -> x.trespass(0, 0, 1));
        Check.is("his own is none", 0, () -> x.trespass(1, 2, 0));
        Check.is("his own: steps", 2, () -> x.trespass(1, 2, 1));
        Check.is("of another's cell the first doesn't count", 5, () -> x.walk(1, 4));
        Check.is("of another's cell the first doesn't count", 4, () -> x.walk(1, 0));
        Check.is("man 0 to another's", 0, () -> x.walk(0, 1));
        Check.is("stands on another's", 0, () -> x.trespass(0, 1, 0));
        Check.is("from another's to bare ground", 0, () -> x.trespass(0, 0, 0));
        Check.is("from another's, a step", 1, () -> x.trespass(0, 0, 1));
        Check.is("what 2", Check.NO_SUCH, () -> x.trespass(0, 0, 2));
        Check.is("what -1", Check.NO_SUCH, () -> x.trespass(0, 0, -1));
        Check.is("no such cell", Check.NO_SUCH, () -> x.trespass(0, 16, 0));
        Check.is("no such person", Check.NO_SUCH, () -> x.trespass(3, 0, 0));
    }

    private static void then() {
        SnowCanton x = Check.told("canton 2 1;man 0 0;child 1 0;fall 0 0 5;fall 1 0 6;fall 2 1 7;");
        Check.is("now", 0, () -> x.then(0, 0));
        Check.is("in an hour", 5, () -> x.then(0, 1));
        Check.is("in two", 11, () -> x.then(0, 2));
        Check.is("in two days", 22, () -> x.then(0, 48));
        Check.is("the child in three", 7, () -> x.then(1, 3));
        Check.is("an hour", 1, () -> x.hours(1));
        Check.is("from then on", 11, () -> x.then(0, 1));
        Check.is("now", 5, () -> x.then(0, 0));
        Check.is("49", Check.ILLEGAL, () -> x.then(0, 49));
        Check.is("-1", Check.ILLEGAL, () -> x.then(0, -1));
        Check.is("no such person is ahead", Check.NO_SUCH, () -> x.then(2, 49));
    }

    private static void stand() {
        SnowCanton x = Check.told("canton 5 1;man 0 1;man 2 0;roof 4 1;fall 0 1 10;fall 1 2 20;fall 2 3 5;");
        Check.is("man 0: 1 and 2, but 2 goes to the nearer", 1, () -> x.person(1, 1) - 1);
        Check.is("where", 1, () -> x.stand(0, 1, 0) + 1);
        Check.is("how much in an hour", 10, () -> x.stand(0, 1, 1));
        Check.is("in two: from 2, of like ones the least", 2, () -> x.stand(0, 2, 0));
        Check.is("in two: how much", 30, () -> x.stand(0, 2, 1));
        Check.is("in three: from 2 with 3", 2, () -> x.stand(0, 3, 0));
        Check.is("in three: how much", 35, () -> x.stand(0, 3, 1));
        Check.is("a roof stays", 4, () -> x.stand(2, 3, 0));
        Check.is("a roof: how much", 5, () -> x.stand(2, 3, 1));
        Check.is("man 1, hat 0", 2, () -> x.stand(1, 24, 0));
        Check.is("man 1, hat 0: how much", 20, () -> x.stand(1, 24, 1));
        Check.is("what 2", Check.NO_SUCH, () -> x.stand(0, 1, 2));
        Check.is("what is ahead of hours", Check.NO_SUCH, () -> x.stand(0, 0, 2));
        Check.is("person is ahead of hours", Check.NO_SUCH, () -> x.stand(3, 0, 0));
        Check.is("0 hours", Check.ILLEGAL, () -> x.stand(0, 0, 0));
        Check.is("25 hours", Check.ILLEGAL, () -> x.stand(2, 25, 0));
        Check.is("what was tried is undone", 0, () -> x.person(0, 1));
    }

    private static void covered() {
        SnowCanton x = Check.told("canton 3 1;fall 0 0 1;fall 5 1 1;");
        Check.is("the first hour", 1, () -> x.covered(0));
        Check.is("hour 5", 6, () -> x.covered(1));
        Check.is("never", -1, () -> x.covered(2));
        Check.is("an hour", 1, () -> x.hours(1));
        Check.is("now", 0, () -> x.covered(0));
        Check.is("hour 5", 5, () -> x.covered(1));
        Check.is("thaw", 1, () -> x.thaw(1));
        Check.is("the next day", 24, () -> x.covered(0));
        Check.is("no such cell", Check.NO_SUCH, () -> x.covered(3));
        Check.is("no such cell", Check.NO_SUCH, () -> x.covered(-1));
    }

    private static void coming() {
        SnowCanton x = Check.told("canton 3 1;fall 0 0 1;fall 5 0 20;fall 5 1 300;".replace("300", "30"));
        Check.is("none", 0, () -> x.coming(0, 0));
        Check.is("1", 1, () -> x.coming(0, 1));
        Check.is("5", 1, () -> x.coming(0, 5));
        Check.is("6", 21, () -> x.coming(0, 6));
        Check.is("48", 42, () -> x.coming(0, 48));
        Check.is("cell 1", 30, () -> x.coming(1, 24));
        Check.is("hours", 5, () -> x.hours(5));
        Check.is("1 from then", 20, () -> x.coming(0, 1));
        Check.is("20 from then", 21, () -> x.coming(0, 20));
        Check.is("49", Check.ILLEGAL, () -> x.coming(0, 49));
        Check.is("-1", Check.ILLEGAL, () -> x.coming(0, -1));
        Check.is("cell is ahead", Check.NO_SUCH, () -> x.coming(3, 49));
    }

    private static void row() {
        // 1 2 3
        // 4 5 6   the plough in the midst
        SnowCanton x = Check.told("canton 3 2;plough 4 0;man 0 0;fall 0 0 1;fall 0 1 2;fall 0 2 3;fall 0 3 4;fall 0 4 5;fall 0 5 6;");
        Check.is("hour", 1, () -> x.hours(1));
        Check.is("one", 11, () -> x.row(0, 1, -1));
        Check.is("to 5", 5, () -> x.row(0, 1, 0));
        Check.is("two", 14, () -> x.row(0, 2, -1));
        Check.is("5, 2", 5, () -> x.row(0, 2, 0));
        Check.is("5, 2", 2, () -> x.row(0, 2, 1));
        Check.is("three", 16, () -> x.row(0, 3, -1));
        Check.is("1, 2, 5 ahead of 5, 2, 1", 1, () -> x.row(0, 3, 0));
        Check.is("1, 2, 5 ahead of 5, 2, 1", 5, () -> x.row(0, 3, 2));
        Check.is("four, back over its own cell", 5 + 4 + 6 + 3, () -> x.row(0, 4, -1));
        int[] cells = {3, 4, 5, 2};
        for (int i = 0; i < 4; i++) {
            int at = i;
            Check.is("four, " + i, cells[i], () -> x.row(0, 4, at));
        }
        Check.is("nothing moved", 5, () -> x.cell(4, 1));
        Check.is("nor the plough", 4, () -> x.person(0, 1));
        Check.is("i 4", Check.NO_SUCH, () -> x.row(0, 4, 4));
        Check.is("i -2", Check.NO_SUCH, () -> x.row(0, 4, -2));
        Check.is("five", Check.ILLEGAL, () -> x.row(0, 5, -1));
        Check.is("none", Check.ILLEGAL, () -> x.row(0, 0, 0));
        Check.is("many is ahead of i", Check.ILLEGAL, () -> x.row(0, 5, 9));
        Check.is("no plough is ahead of many", Check.NO_SUCH, () -> x.row(1, 5, -1));
        Check.is("no such person is ahead of many", Check.NO_SUCH, () -> x.row(2, 5, -1));
    }

    private static void rowWhereNoneLies() {
        SnowCanton x = Check.told("canton 2 2;plough 3 0;");
        Check.is("nothing", 0, () -> x.row(0, 3, -1));
        int[] cells = {1, 0, 1};
        for (int i = 0; i < 3; i++) {
            int at = i;
            Check.is("the first row, " + i, cells[i], () -> x.row(0, 3, at));
        }
        SnowCanton y = Check.told("canton 1 1;plough 0 0;man 0 0;");
        Check.is("no neighbours", Check.ILLEGAL, () -> y.row(0, 1, -1));
        Check.is("no neighbours is ahead of i", Check.ILLEGAL, () -> y.row(0, 1, 5));
        Check.is("no plough is ahead of that", Check.NO_SUCH, () -> y.row(1, 1, -1));
    }

    private static void heir() {
        SnowCanton x = Check.told("canton 5 1;man 2 1;man 1 1;man 3 1;roof 4 3;fall 0 2 10;fall 1 3 20;fall 2 1 5;");
        Check.is("of man 0: 10 to 1, of like ones the least", 1, () -> x.heir(0, 1));
        Check.is("of man 0 in three: still 10 to man 1", 1, () -> x.heir(0, 3));
        Check.is("of man 1: his 5 to man 0", 0, () -> x.heir(1, 3));
        Check.is("of man 1 in two: none", -1, () -> x.heir(1, 2));
        Check.is("of man 2: his 20 to man 0", 0, () -> x.heir(2, 3));
        Check.is("of the roof: none", -1, () -> x.heir(3, 24));
        Check.is("an hour", 1, () -> x.hours(1));
        Check.is("what he has already stays his", -1, () -> x.heir(0, 24));
        Check.is("0", Check.ILLEGAL, () -> x.heir(0, 0));
        Check.is("25", Check.ILLEGAL, () -> x.heir(0, 25));
        Check.is("person is ahead", Check.NO_SUCH, () -> x.heir(4, 25));
        SnowCanton y = Check.told("canton 3 1;man 0 0;fall 0 0 9;");
        Check.is("to nobody", -1, () -> y.heir(0, 24));
        SnowCanton z = Check.told("canton 5 1;man 2 2;man 1 1;man 3 1;fall 0 1 5;fall 0 3 6;first hat;");
        Check.is("who has most more", 2, () -> z.heir(0, 1));
        SnowCanton one = Check.told("canton 3 1;man 1 0;man 0 1;fall 0 1 1;");
        Check.is("a single flake is more", 1, () -> one.heir(0, 1));
    }

    private static void nothingChanges() {
        SnowCanton x = Check.told("canton 3 2;plough 4 0;man 0 2;child 5 1;fall 0 0 1;fall 3 1 2;fall 7 2 3;");
        Check.is("hours", 2, () -> x.hours(2));
        for (int i = 0; i < 3; i++) {
            int p = i;
            Check.holds("asks", x.then(p, 48) >= 0 && x.stand(p, 24, 1) >= 0 && x.heir(p, 24) >= -1);
        }
        Check.holds("asks on", x.row(0, 4, -1) >= 0 && x.covered(2) == 6 && x.coming(2, 48) == 6);
        Check.is("the hour", 2, () -> x.count(4));
        Check.is("flakes", 1, () -> x.count(5));
        Check.is("acts", 1, () -> x.count(10));
        Check.is("undo", 0, x::undo);
    }

    private static void wrongInputs() {
        SnowCanton x = Check.told("man 0 0;plough 1 1;");
        int[] wrong = {Integer.MIN_VALUE, Integer.MAX_VALUE, -1, 99};
        for (int n : wrong) {
            Check.is("trespass of " + n, Check.NO_SUCH, () -> x.trespass(n, 0, 0));
            Check.is("trespass to " + n, Check.NO_SUCH, () -> x.trespass(0, n, 0));
            Check.is("then of " + n, Check.NO_SUCH, () -> x.then(n, 1));
            Check.is("then in " + n, Check.ILLEGAL, () -> x.then(0, n));
            Check.is("stand of " + n, Check.NO_SUCH, () -> x.stand(n, 1, 0));
            Check.is("stand in " + n, Check.ILLEGAL, () -> x.stand(0, n, 0));
            Check.is("covered " + n, Check.NO_SUCH, () -> x.covered(n));
            Check.is("coming to " + n, Check.NO_SUCH, () -> x.coming(n, 1));
            Check.is("coming in " + n, Check.ILLEGAL, () -> x.coming(0, n));
            Check.is("row of " + n, Check.NO_SUCH, () -> x.row(n, 1, -1));
            Check.is("row of so many " + n, Check.ILLEGAL, () -> x.row(1, n, -1));
            Check.is("heir of " + n, Check.NO_SUCH, () -> x.heir(n, 1));
            Check.is("heir in " + n, Check.ILLEGAL, () -> x.heir(0, n));
        }
    }
}
