/** The document's edges of what would be, and promises 14 to 20, sentence by sentence. */
final class EdgeAheadTest {
    private static final int[] FAR_OFF = {Integer.MIN_VALUE, -2, -1, 99, Integer.MAX_VALUE};

    private EdgeAheadTest() {
    }

    public static void main(String[] args) {
        trespassCounts();
        trespassFewestAheadOfShortest();
        trespassSteps();
        trespassOfRoofs();
        then();
        thenBeyond9999Hours();
        standAt();
        standOfRoofs();
        standOfLikeOnes();
        covered();
        coming();
        comingByTheDay();
        rows();
        rowsOfLikeOnes();
        rowsInTheirOrder();
        heirs();
        heirsNone();
        heirsMost();
        asksChangeNothing();
        Check.end("EdgeAheadTest");
    }

    // "how many of its CELLS (but the first one) have a HEAP of somebody else (not of nobody)".
    private static void trespassCounts() {
        SnowCanton x = Check.told("canton 5 1;man 0 0;man 1 0;man 3 0;fall 0 1 1;fall 0 2 1;fall 0 3 1;fall 0 0 1;");
        int[] bare = {0, 0, 0, 0, 0};
        int[] due = {0, 1, 1, 2, 2};
        for (int c = 0; c < 5; c++) {
            int cell = c;
            Check.is("no heaps yet: to " + c, bare[c], () -> x.trespass(0, cell, 0));
        }
        Check.is("hour", 1, () -> x.hours(1));
        for (int c = 0; c < 5; c++) {
            int cell = c;
            Check.is("to " + c, due[c], () -> x.trespass(0, cell, 0));
            Check.is("steps to " + c, c, () -> x.trespass(0, cell, 1));
        }
        Check.is("man 1 to 0: one, his own first one being none", 1, () -> x.trespass(1, 0, 0));
        Check.is("man 1 to 4", 1, () -> x.trespass(1, 4, 0));
        Check.is("man 0 walks to another's", 0, () -> x.walk(0, 1));
        Check.is("the first one counts not", 0, () -> x.trespass(0, 1, 0));
        Check.is("nor on the way back", 0, () -> x.trespass(0, 0, 0));
        Check.is("nor on the way to nobody's", 0, () -> x.trespass(0, 2, 0));
        Check.is("the next one does", 1, () -> x.trespass(0, 3, 0));
    }

    // "the fewest": a long way round is better; "steps of the shortest of such ways".
    private static void trespassFewestAheadOfShortest() {
        // 0 | .   the wall of man 1: 1, 6, 11, 16; the way round goes by the lowest row
        SnowCanton x = Check.told("canton 5 5;man 0 0;man 6 3;fall 0 1 1;fall 0 6 1;fall 0 11 1;fall 0 16 1;");
        Check.is("hour", 1, () -> x.hours(1));
        Check.is("round the wall: none", 0, () -> x.trespass(0, 2, 0));
        Check.is("4 down, 2 to the right, 4 up", 10, () -> x.trespass(0, 2, 1));
        Check.is("none to the far corner", 0, () -> x.trespass(0, 4, 0));
        Check.is("4 down, 4 to the right, 4 up", 12, () -> x.trespass(0, 4, 1));
        Check.is("into the wall: one", 1, () -> x.trespass(0, 11, 0));
        Check.is("into the wall: steps", 3, () -> x.trespass(0, 11, 1));
        // A spiral: the longest way without a trespass.
        SnowCanton y = Check.told("canton 5 5;man 0 0;man 12 3;man 8 3;"
                + "fall 0 5 1;fall 0 6 1;fall 0 7 1;fall 0 8 1;fall 0 16 1;fall 0 17 1;fall 0 18 1;fall 0 11 1;fall 0 12 1;first kind=0 and 0<far;");
        Check.is("hour", 1, () -> y.hours(1));
        Check.is("none is his own", 0, () -> y.person(0, 3));
        Check.is("along the row and down", 0, () -> y.trespass(0, 13, 0));
        Check.is("4 right, 2 down, 1 left", 7, () -> y.trespass(0, 13, 1));
        Check.is("round to 10", 0, () -> y.trespass(0, 10, 0));
        Check.is("4 right, 4 down, 4 left, 2 up", 14, () -> y.trespass(0, 10, 1));
    }

    private static void trespassSteps() {
        SnowCanton x = Check.told("canton 5 5;man 0 0;");
        for (int c = 0; c < 25; c++) {
            int cell = c;
            Check.is("none to " + c, 0, () -> x.trespass(0, cell, 0));
            Check.is("steps to " + c, c % 5 + c / 5, () -> x.trespass(0, cell, 1));
        }
        SnowCanton y = Check.told("canton 5 1;man 0 0;man 2 2;fall 0 1 1;fall 0 2 1;fall 0 3 1;fall 0 4 1;");
        Check.is("hour", 1, () -> y.hours(1));
        Check.is("all four", 4, () -> y.trespass(0, 4, 0));
        Check.is("in four steps", 4, () -> y.trespass(0, 4, 1));
        SnowCanton one = Check.told("canton 1 1;man 0 0;");
        Check.is("no way at all", 0, () -> one.trespass(0, 0, 0));
        Check.is("no step", 0, () -> one.trespass(0, 0, 1));
    }

    private static void trespassOfRoofs() {
        SnowCanton x = Check.told("canton 3 1;roof 0 0;man 1 0;fall 0 1 1;");
        Check.is("hour", 1, () -> x.hours(1));
        Check.is("a roof's, too", 1, () -> x.trespass(0, 2, 0));
        Check.is("a roof's steps", 2, () -> x.trespass(0, 2, 1));
    }

    // Promise 15: "in so many HOURS (0 to 48)".
    private static void then() {
        SnowCanton x = Check.told("canton 2 1;man 0 0;child 1 0;fall 0 0 5;fall 23 0 6;fall 0 1 7;");
        int[][] due = {{0, 0}, {1, 5}, {23, 5}, {24, 11}, {25, 16}, {47, 16}, {48, 22}};
        for (int[] d : due) {
            Check.is("then in " + d[0], d[1], () -> x.then(0, d[0]));
        }
        Check.is("the child's", 14, () -> x.then(1, 48));
        Check.is("hour", 1, () -> x.hours(1));
        Check.is("now", 5, () -> x.then(0, 0));
        Check.is("from now on", 11, () -> x.then(0, 23));
        Check.Maker maker = () -> Check.told("canton 2 1;man 0 0;fall 0 0 5;");
        int[] wrong = {-1, 49, Integer.MIN_VALUE, Integer.MAX_VALUE};
        for (int n : wrong) {
            Check.leaves(maker, "then in " + n, Check.ILLEGAL, y -> y.then(0, n));
            Check.leaves(maker, "nobody then in " + n, Check.NO_SUCH, y -> y.then(1, n));
        }
        for (int n : FAR_OFF) {
            Check.leaves(maker, "then of " + n, Check.NO_SUCH, y -> y.then(n, 0));
        }
        Check.leaves(maker, "then in 48", 10, y -> y.then(0, 48));
    }

    private static void thenBeyond9999Hours() {
        SnowCanton x = Check.told("canton 1 1;man 0 0;fall 14 0 1;fall 15 0 2;");
        for (int i = 1; i <= 208; i++) {
            x.hours(48);
        }
        Check.is("9999", 9999, () -> x.hours(15));
        Check.is("lies", 417 + 832, () -> x.count(5));
        Check.is("hour 15 is next", 417 + 834, () -> x.then(0, 1));
        Check.is("in 48", 417 + 2 + 832 + 4, () -> x.then(0, 48));
        Check.is("best place", 417 + 834, () -> x.stand(0, 1, 1));
        Check.is("to come", 2, () -> x.coming(0, 23));
        Check.is("to come", 3, () -> x.coming(0, 24));
        Check.is("partition", 1, () -> x.partition() ? 1 : 0);
        Check.is("a winter", 0, () -> x.winter(3, 60, 2));
        Check.is("the hour is as it was", 9999, () -> x.count(4));
    }

    // Promise 16: "the CELL (..; of like ones the least); how much", "(1 to 24)", "all others staying".
    private static void standAt() {
        SnowCanton x = Check.told("canton 5 1;man 0 0;man 2 0;fall 0 1 3;fall 0 2 9;fall 23 3 4;fall 23 4 2;");
        Check.is("man 0 in 1: of like ones the least takes 2", 2, () -> x.stand(0, 1, 0));
        Check.is("man 0 in 1: how much", 9, () -> x.stand(0, 1, 1));
        Check.is("man 1 in 1", 2, () -> x.stand(1, 1, 0));
        Check.is("man 1 in 1: how much", 9, () -> x.stand(1, 1, 1));
        Check.is("in 23: no more", 9, () -> x.stand(0, 23, 1));
        SnowCanton y = Check.told("canton 5 1;man 4 0;fall 0 1 3;fall 23 3 4;");
        Check.is("in 23", 1, () -> y.stand(0, 23, 0));
        Check.is("in 24", 3, () -> y.stand(0, 24, 0));
        Check.is("in 24: how much", 4, () -> y.stand(0, 24, 1));
        Check.is("hour", 1, () -> y.hours(1));
        Check.is("in 24 from now", 3, () -> y.stand(0, 24, 0));
        Check.is("in 22 from now: nothing, of like ones the least", 0, () -> y.stand(0, 22, 0));
        Check.Maker maker = () -> Check.told("canton 2 1;man 0 0;roof 0 0;");
        int[] wrong = {0, -1, 25, Integer.MIN_VALUE, Integer.MAX_VALUE};
        for (int n : wrong) {
            for (int p = 0; p < 2; p++) {
                int person = p;
                Check.leaves(maker, "stand in " + n, Check.ILLEGAL, z -> z.stand(person, n, 0));
                Check.leaves(maker, "how much in " + n, Check.ILLEGAL, z -> z.stand(person, n, 1));
                Check.leaves(maker, "another what is ahead", Check.NO_SUCH, z -> z.stand(person, n, 2));
            }
            Check.leaves(maker, "no such person is ahead", Check.NO_SUCH, z -> z.stand(2, n, 0));
        }
        for (int n : FAR_OFF) {
            Check.leaves(maker, "stand of " + n, Check.NO_SUCH, z -> z.stand(n, 1, 0));
            Check.leaves(maker, "stand's what " + n, Check.NO_SUCH, z -> z.stand(0, 1, n));
        }
    }

    // "(a roof stays; ..)".
    private static void standOfRoofs() {
        SnowCanton x = Check.told("canton 3 1;roof 2 0;fall 0 0 9;fall 1 2 1;");
        Check.is("where it is", 2, () -> x.stand(0, 1, 0));
        Check.is("nothing", 0, () -> x.stand(0, 1, 1));
        Check.is("where it is", 2, () -> x.stand(0, 24, 0));
        Check.is("one", 1, () -> x.stand(0, 24, 1));
        SnowCanton y = Check.told("canton 3 1;plough 2 3;child 2 0;fall 0 0 9;fall 1 2 1;");
        Check.is("a plough goes", 0, () -> y.stand(0, 24, 0));
        Check.is("a child goes", 0, () -> y.stand(1, 24, 0));
        Check.is("and reaches farther", 9, () -> y.stand(1, 24, 1));
    }

    private static void standOfLikeOnes() {
        SnowCanton x = Check.told("canton 5 5;man 24 0;");
        Check.is("nothing anywhere: 0, not where he is", 0, () -> x.stand(0, 24, 0));
        SnowCanton y = Check.told("canton 5 1;man 4 1;fall 0 2 7;");
        Check.is("1, 2 and 3 are alike", 1, () -> y.stand(0, 1, 0));
        SnowCanton z = Check.told("canton 5 5;man 0 0;fall 0 24 1;");
        Check.is("the last cell", 24, () -> z.stand(0, 1, 0));
        SnowCanton w = Check.told("canton 3 1;man 0 0;fall 0 0 5;fall 1 0 5;fall 1 2 4;");
        Check.is("hour", 1, () -> w.hours(1));
        Check.is("his heap stays his and grows: going is better", 2, () -> w.stand(0, 1, 0));
        Check.is("with what he has", 14, () -> w.stand(0, 1, 1));
    }

    // Promise 17: "in which HOUR first FLAKES lie there at its end (1 to 48; 0: now); none".
    private static void covered() {
        for (int h = 0; h < 24; h++) {
            SnowCanton x = Check.told("canton 2 1;fall " + h + " 1 1;");
            int due = h + 1;
            Check.is("fall at hour " + h, due, () -> x.covered(1));
            Check.is("never", -1, () -> x.covered(0));
            Check.is("just ahead of it", h == 0 ? 48 : h, () -> x.hours(due == 1 ? 48 : due - 1));
            Check.is("the next hour", due == 1 ? 0 : 1, () -> x.covered(1));
            Check.is("an hour", due == 1 ? 49 : due, () -> x.hours(1));
            Check.is("now", 0, () -> x.covered(1));
            x.thaw(99);
            Check.is("bare again", 24, () -> x.covered(1));
        }
        Check.Maker maker = () -> Check.told("canton 2 1;fall 0 0 1;");
        for (int n : FAR_OFF) {
            Check.leaves(maker, "covered(" + n + ")", Check.NO_SUCH, x -> x.covered(n));
        }
        Check.leaves(maker, "covered(2)", Check.NO_SUCH, x -> x.covered(2));
        Check.leaves(maker, "covered(0)", 1, x -> x.covered(0));
        Check.leaves(maker, "covered(1)", -1, x -> x.covered(1));
    }

    // Promise 18: "FLAKES that fall to a CELL in so many HOURS (0 to 48)".
    private static void coming() {
        SnowCanton x = Check.told("canton 2 1;fall 0 0 1;fall 0 0 2;fall 5 0 4;fall 23 0 8;fall 5 1 99;");
        int[][] due = {{0, 0}, {1, 3}, {5, 3}, {6, 7}, {23, 7}, {24, 15}, {25, 18}, {47, 22}, {48, 30}};
        for (int[] d : due) {
            Check.is("coming in " + d[0], d[1], () -> x.coming(0, d[0]));
        }
        Check.is("to the other", 198, () -> x.coming(1, 48));
        Check.Maker maker = () -> Check.told("canton 2 1;fall 0 0 1;");
        int[] wrong = {-1, 49, Integer.MIN_VALUE, Integer.MAX_VALUE};
        for (int n : wrong) {
            Check.leaves(maker, "coming in " + n, Check.ILLEGAL, y -> y.coming(1, n));
            Check.leaves(maker, "no such cell is ahead", Check.NO_SUCH, y -> y.coming(2, n));
        }
        for (int n : FAR_OFF) {
            Check.leaves(maker, "coming to " + n, Check.NO_SUCH, y -> y.coming(n, 0));
        }
        SnowCanton full = Check.told("canton 1 1;" + "fall 0 0 99;".repeat(24));
        Check.is("hours", 48, () -> full.hours(48));
        Check.is("hours", 96, () -> full.hours(48));
        Check.is("hours", 144, () -> full.hours(48));
        Check.is("full", 9999, () -> full.count(5));
        Check.is("they fall all the same", 4752, () -> full.coming(0, 48));
    }

    private static void comingByTheDay() {
        SnowCanton x = Check.told("canton 1 1;fall 4 0 1;fall 5 0 2;fall 6 0 4;");
        Check.is("hours", 5, () -> x.hours(5));
        Check.is("nothing", 0, () -> x.coming(0, 0));
        Check.is("hour 5 alone", 2, () -> x.coming(0, 1));
        Check.is("5 and 6", 6, () -> x.coming(0, 2));
        Check.is("up to 3", 6, () -> x.coming(0, 23));
        Check.is("a day", 7, () -> x.coming(0, 24));
        Check.is("two days", 14, () -> x.coming(0, 48));
        Check.is("a day goes by", 29, () -> x.hours(24));
        Check.is("hour 5 of the next", 2, () -> x.coming(0, 1));
    }

    // Promise 19: "of all rows of neighbours that it is told (so many, 1 to 4 ..) that by which most lies in the last CELL".
    private static void rows() {
        SnowCanton x = Check.told("canton 5 1;plough 0 0;man 0 0;fall 0 0 1;fall 0 1 2;fall 0 2 4;fall 0 3 8;fall 0 4 16;");
        Check.is("hour", 1, () -> x.hours(1));
        int[][] due = {{3, 1}, {7, 1, 2}, {15, 1, 2, 3}, {31, 1, 2, 3, 4}};
        for (int many = 1; many <= 4; many++) {
            int m = many;
            Check.is("row of " + many, due[many - 1][0], () -> x.row(0, m, -1));
            for (int i = 0; i < many; i++) {
                int at = i;
                Check.is("row of " + many + ", " + i, due[many - 1][i + 1], () -> x.row(0, m, at));
            }
            Check.is("row of " + many + ": no such i", Check.NO_SUCH, () -> x.row(0, m, m));
            Check.is("row of " + many + ": no such i", Check.NO_SUCH, () -> x.row(0, m, -2));
        }
        Check.is("nothing was pushed", 1, () -> x.cell(0, 1));
        Check.Maker maker = () -> Check.told("canton 2 1;plough 0 0;man 0 0;child 0 0;roof 0 0;");
        int[] wrong = {0, 5, -1, Integer.MIN_VALUE, Integer.MAX_VALUE};
        for (int n : wrong) {
            Check.leaves(maker, "row of " + n, Check.ILLEGAL, y -> y.row(0, n, -1));
            Check.leaves(maker, "row of " + n + " is ahead of i", Check.ILLEGAL, y -> y.row(0, n, 9));
            for (int p = 1; p < 5; p++) {
                int person = p;
                Check.leaves(maker, "no plough is ahead: " + p, Check.NO_SUCH, y -> y.row(person, n, -1));
            }
        }
        for (int n : FAR_OFF) {
            Check.leaves(maker, "row of person " + n, Check.NO_SUCH, y -> y.row(n, 1, -1));
            Check.leaves(maker, "row's i " + n, n == -1 ? 0 : Check.NO_SUCH, y -> y.row(0, 1, n));
        }
        Check.Maker alone = () -> Check.told("canton 1 1;plough 0 0;man 0 0;");
        Check.leaves(alone, "there are no neighbours", Check.ILLEGAL, y -> y.row(0, 1, -1));
        Check.leaves(alone, "that is ahead of i", Check.ILLEGAL, y -> y.row(0, 4, 4));
        Check.leaves(alone, "no plough is ahead of it", Check.NO_SUCH, y -> y.row(1, 1, -1));
    }

    // "the first such row (by CELLS' numbers)".
    private static void rowsOfLikeOnes() {
        SnowCanton x = Check.told("canton 3 3;plough 4 0;");
        int[][] due = {{1}, {1, 0}, {1, 0, 1}, {1, 0, 1, 0}};
        for (int many = 1; many <= 4; many++) {
            int m = many;
            Check.is("nothing lies", 0, () -> x.row(0, m, -1));
            for (int i = 0; i < many; i++) {
                int at = i;
                Check.is("first row of " + many + ", " + i, due[many - 1][i], () -> x.row(0, m, at));
            }
        }
        SnowCanton y = Check.told("canton 3 3;plough 4 0;fall 0 3 5;fall 0 5 5;fall 0 7 5;");
        Check.is("hour", 1, () -> y.hours(1));
        Check.is("of 3, 5 and 7 the first", 3, () -> y.row(0, 1, 0));
        SnowCanton edge = Check.told("canton 3 3;plough 3 0;fall 0 2 9;fall 0 3 1;fall 0 6 1;");
        Check.is("hour", 1, () -> edge.hours(1));
        Check.is("2 is no neighbour over the edge", 2, () -> edge.row(0, 1, -1));
        Check.is("6", 6, () -> edge.row(0, 1, 0));
        SnowCanton z = Check.told("canton 3 3;plough 4 0;fall 0 5 5;fall 0 7 5;");
        Check.is("hour", 1, () -> z.hours(1));
        Check.is("of 5 and 7 the first", 5, () -> z.row(0, 1, 0));
        SnowCanton w = Check.told("canton 3 3;plough 4 0;fall 0 7 5;");
        Check.is("hour", 1, () -> w.hours(1));
        Check.is("7 alone", 7, () -> w.row(0, 1, 0));
        Check.is("1, 4 has none of it; 3, 6, 7 has", 5, () -> w.row(0, 3, -1));
        Check.is("the first by numbers is 1, 4, 7", 1, () -> w.row(0, 3, 0));
        Check.is("back over its own cell", 4, () -> w.row(0, 3, 1));
    }

    // It PUSHES to one, WALKS there, PUSHES on: whoever owns, and what it left behind is not there again.
    private static void rowsInTheirOrder() {
        SnowCanton x = Check.told("canton 2 1;plough 0 0;man 0 0;fall 0 0 7;");
        Check.is("hour", 1, () -> x.hours(1));
        Check.is("to and fro: all of it", 7, () -> x.row(0, 4, -1));
        Check.is("ends where it began", 0, () -> x.row(0, 4, 3));
        SnowCanton y = Check.told("canton 3 1;plough 1 0;fall 0 0 5;fall 0 2 5;fall 0 1 1;");
        Check.is("hour", 1, () -> y.hours(1));
        Check.is("one", 6, () -> y.row(0, 1, -1));
        Check.is("two: back with all", 6, () -> y.row(0, 2, -1));
        Check.is("three: both", 11, () -> y.row(0, 3, -1));
        Check.is("by 0, 1", 0, () -> y.row(0, 3, 0));
        Check.is("to 2", 2, () -> y.row(0, 3, 2));
    }

    // Promise 20: "if one of PEOPLE were not there, to whom in so many HOURS (1 to 24) what falls would come".
    private static void heirs() {
        SnowCanton x = Check.told("canton 5 1;man 2 1;man 1 2;man 3 2;fall 0 2 9;fall 23 3 9;");
        Check.is("in 1: of like ones the least", 1, () -> x.heir(0, 1));
        Check.is("in 23: no more", 1, () -> x.heir(0, 23));
        Check.is("of man 2 in 23: none", -1, () -> x.heir(2, 23));
        Check.is("of man 2 in 24: what falls at 23, the nearest", 0, () -> x.heir(2, 24));
        Check.is("of man 1: none", -1, () -> x.heir(1, 24));
        Check.Maker maker = () -> Check.told("canton 2 1;man 0 0;man 0 0;fall 0 0 5;");
        int[] wrong = {0, -1, 25, Integer.MIN_VALUE, Integer.MAX_VALUE};
        for (int n : wrong) {
            Check.leaves(maker, "heir in " + n, Check.ILLEGAL, y -> y.heir(0, n));
            Check.leaves(maker, "no such person is ahead", Check.NO_SUCH, y -> y.heir(2, n));
        }
        for (int n : FAR_OFF) {
            Check.leaves(maker, "heir of " + n, Check.NO_SUCH, y -> y.heir(n, 1));
        }
        Check.leaves(maker, "heir in 24", 1, y -> y.heir(0, 24));
        Check.leaves(maker, "heir in 1", 1, y -> y.heir(0, 1));
    }

    // "none, if nobody".
    private static void heirsNone() {
        SnowCanton alone = Check.told("canton 2 1;man 0 0;fall 0 0 5;");
        Check.is("one alone", -1, () -> alone.heir(0, 24));
        SnowCanton dry = Check.told("canton 2 1;man 0 0;man 0 0;");
        Check.is("nothing falls", -1, () -> dry.heir(0, 24));
        SnowCanton far = Check.told("canton 5 1;man 0 0;man 4 3;fall 0 0 5;");
        Check.is("nobody reaches it", -1, () -> far.heir(0, 24));
        SnowCanton second = Check.told("canton 2 1;man 0 0;man 0 0;fall 0 0 5;");
        Check.is("the second had none of it", -1, () -> second.heir(1, 24));
        Check.is("hour", 1, () -> second.hours(1));
        Check.is("his heap stays his without him", -1, () -> second.heir(0, 24));
        Check.is("thaw", 5, () -> second.thaw(5));
        Check.is("on bare ground it would come to the second", 1, () -> second.heir(0, 24));
    }

    // "who has most more (of like ones the least)".
    private static void heirsMost() {
        String text = "canton 5 1;man 2 1;man 1 0;man 3 0;man 3 0;first hat;";
        SnowCanton x = Check.told(text + "fall 0 1 5;fall 0 3 4;");
        Check.is("5 is more than 4", 1, () -> x.heir(0, 1));
        SnowCanton y = Check.told(text + "fall 0 1 4;fall 0 3 5;");
        Check.is("4 is less than 5, of like ones the least", 2, () -> y.heir(0, 1));
        SnowCanton z = Check.told(text + "fall 0 1 4;fall 0 3 4;");
        Check.is("of like ones the least", 1, () -> z.heir(0, 1));
        SnowCanton w = Check.told(text + "fall 0 1 1;");
        Check.is("one flake is more", 1, () -> w.heir(0, 1));
        SnowCanton rich = Check.told("canton 5 1;man 2 1;man 1 0;man 4 0;fall 0 4 99;fall 0 2 9;fall 0 1 1;first hat;");
        Check.is("who has most more, not who has most", 1, () -> rich.heir(0, 1));
        // Without man 0 the first flakes go to man 1, who then has too much for the next ones.
        SnowCanton less = Check.told("canton 3 1;man 0 1;man 1 1;man 2 2;fall 0 0 5;fall 0 1 9;first 0-has;");
        Check.is("man 0 has 5, man 1 has 9", 9, () -> less.then(1, 1));
        Check.is("without man 0: man 1 5, man 2 9", 2, () -> less.heir(0, 1));
    }

    private static void asksChangeNothing() {
        Check.Maker maker = () -> {
            SnowCanton x = Check.told("canton 2 2;man 0 1;plough 1 0;child 3 2;fall 0 0 5;fall 2 1 6;fall 4 3 7;first has+far;");
            x.hours(3);
            x.walk(0, 2);
            x.see(1, 2, 0);
            x.image();
            return x;
        };
        Check.leaves(maker, "trespass", 0, x -> x.trespass(0, 3, 0));
        Check.leaves(maker, "steps", 1, x -> x.trespass(0, 3, 1));
        Check.leaves(maker, "then", 0, x -> Math.min(0, x.then(2, 48)));
        Check.leaves(maker, "stand", 0, x -> Math.min(0, x.stand(2, 24, 0)));
        Check.leaves(maker, "how much", 0, x -> Math.min(0, x.stand(2, 24, 1)));
        Check.leaves(maker, "covered", 2, x -> x.covered(3));
        Check.leaves(maker, "coming", 14, x -> x.coming(3, 48));
        Check.leaves(maker, "row", 11, x -> x.row(1, 1, -1));
        Check.leaves(maker, "row's cell", 0, x -> x.row(1, 1, 0));
        Check.leaves(maker, "heir", 0, x -> Math.min(0, x.heir(0, 24) + 1));
    }
}
