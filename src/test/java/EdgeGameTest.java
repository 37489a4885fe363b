/** The document's edges of partitions, games, winters and the image, promises 25 to 29, sentence by sentence. */
final class EdgeGameTest {
    private EdgeGameTest() {
    }

    public static void main(String[] args) {
        partitionToEachSide();
        partitionInSixHours();
        partitionOfAll();
        partitionMore();
        gameChoices();
        gameInSixHours();
        gameNone();
        gameOfStrangers();
        gameWrongInputs();
        winterHours();
        winterDraws();
        winterOfOneCell();
        winterWalks();
        winterOverTheEdge();
        winterHour();
        winterWho();
        winterFull();
        winterWrongInputs();
        imageKeeps();
        imageKeepsActs();
        imageKeepsForty();
        imageKeepsSeen();
        imageAnother();
        imageGone();
        Check.end("EdgeGameTest");
    }

    private static int is(boolean is) {
        return is ? 1 : 0;
    }

    // Promise 25: "WALKING now to a neighbour".
    private static void partitionToEachSide() {
        for (int c = 0; c < 9; c++) {
            boolean isNear = c == 1 || c == 3 || c == 5 || c == 7;
            SnowCanton x = Check.told("canton 3 3;man 4 0;fall 0 " + c + " 1;");
            Check.is("snow at " + c, isNear ? 0 : 1, () -> is(x.partition()));
            SnowCanton y = Check.told("canton 3 3;roof 4 0;fall 0 " + c + " 1;");
            Check.is("(but roofs) " + c, 1, () -> is(y.partition()));
        }
        SnowCanton z = Check.told("canton 3 3;man 3 0;fall 0 2 1;");
        Check.is("no neighbour over the edge", 1, () -> is(z.partition()));
        SnowCanton one = Check.told("canton 1 1;man 0 0;fall 0 0 1;");
        Check.is("no neighbour at all", 1, () -> is(one.partition()));
        SnowCanton none = Check.told("fall 0 0 1;");
        Check.is("nobody", 1, () -> is(none.partition()));
    }

    private static void partitionInSixHours() {
        for (int h = 0; h < 24; h++) {
            SnowCanton x = Check.told("canton 2 1;man 0 0;fall " + h + " 1 1;");
            Check.is("snow at hour " + h, h < 6 ? 1 : 0, () -> 1 - is(x.partition()));
        }
        SnowCanton y = Check.told("canton 2 1;man 0 0;fall 6 1 1;");
        Check.is("not yet", 1, () -> is(y.partition()));
        Check.is("hour", 1, () -> y.hours(1));
        Check.is("from now on", 0, () -> is(y.partition()));
    }

    // "none of PEOPLE (but roofs), alone".
    private static void partitionOfAll() {
        String stays = "man 0 0;man 0 0;man 0 0;man 0 0;man 0 0;man 0 0;man 0 0;";
        SnowCanton x = Check.told("canton 5 1;" + stays + "child 4 0;fall 1 2 1;");
        Check.is("nobody is near", 1, () -> is(x.partition()));
        SnowCanton y = Check.told("canton 5 1;" + stays + "man 3 0;fall 1 2 1;");
        Check.is("the eighth would", 0, () -> is(y.partition()));
        SnowCanton z = Check.told("canton 5 1;" + stays + "plough 3 3;fall 1 2 1;");
        Check.is("a plough would", 0, () -> is(z.partition()));
        SnowCanton w = Check.told("canton 5 1;roof 0 0;roof 3 0;child 3 0;fall 1 2 1;");
        Check.is("a child would", 0, () -> is(w.partition()));
        // Both might get 1 only if the other one left; one alone gains nothing.
        SnowCanton alone = Check.told("canton 2 1;man 1 0;man 0 0;fall 0 1 1;");
        Check.is("the other one is there, and the least", 1, () -> is(alone.partition()));
    }

    // "would have more".
    private static void partitionMore() {
        SnowCanton like = Check.told("canton 2 1;man 0 0;fall 0 0 5;fall 0 1 5;");
        Check.is("as much is not more", 1, () -> is(like.partition()));
        SnowCanton more = Check.told("canton 2 1;man 0 0;fall 0 0 5;fall 0 1 6;");
        Check.is("one more is", 0, () -> is(more.partition()));
        SnowCanton has = Check.told("canton 2 1;man 0 0;fall 0 0 50;fall 1 0 5;fall 1 1 4;");
        Check.is("at first he stays", 1, () -> is(has.partition()));
        Check.is("hour", 1, () -> has.hours(1));
        Check.is("his heap grows without him", 0, () -> is(has.partition()));
    }

    // Promise 26: "each stays, or goes to a told CELL (0, 1), both to the same one".
    private static void gameChoices() {
        SnowCanton x = Check.told("canton 5 5;man 0 0;man 4 0;fall 0 24 5;");
        Check.is("the other stays, for the least gets it", 2, () -> x.game(0, 1, 24, 0));
        Check.is("the first goes, the other stays", 10, () -> x.game(0, 1, 24, 1));
        Check.is("the other way round", 2, () -> x.game(1, 0, 24, 0));
        Check.is("the first stays, the other goes", 1, () -> x.game(1, 0, 24, 1));
        SnowCanton y = Check.told("canton 5 5;man 0 0;man 4 0;fall 0 0 5;");
        Check.is("who is there stays", 2, () -> y.game(0, 1, 24, 0));
        Check.is("both stay, or the other goes", 0, () -> y.game(0, 1, 24, 1));
        SnowCanton both = Check.told("canton 3 1;man 0 0;man 2 0;fall 0 1 5;fall 0 0 3;fall 0 2 3;first 0-hat;");
        Check.is("the first goes, the other stays", 1, () -> both.game(0, 1, 1, 0));
        Check.is("10", 10, () -> both.game(0, 1, 1, 1));
        SnowCanton each = Check.told("canton 3 1;man 0 0;man 2 1;fall 0 1 5;fall 1 0 9;first hat;");
        Check.is("the other goes, the first gets nothing anyway", 2, () -> each.game(0, 1, 1, 0));
        Check.is("01", 1, () -> each.game(0, 1, 1, 1));
        SnowCanton go = Check.told("canton 5 1;man 0 0;man 1 1;fall 0 3 5;fall 0 4 5;");
        Check.is("both go, to the same cell", 1, () -> go.game(0, 1, 3, 0));
        Check.is("11", 11, () -> go.game(0, 1, 3, 1));
        Check.is("the other way round", 11, () -> go.game(1, 0, 3, 1));
    }

    // "each gains what he has in 6 HOURS".
    private static void gameInSixHours() {
        SnowCanton x = Check.told("canton 3 1;man 0 0;man 0 0;fall 5 2 1;");
        Check.is("hour 5 is in", 10, () -> x.game(0, 1, 2, 1));
        SnowCanton y = Check.told("canton 3 1;man 0 0;man 0 0;fall 6 2 1;");
        Check.is("hour 6 is not", 0, () -> y.game(0, 1, 2, 1));
        Check.is("all four rest", 4, () -> y.game(0, 1, 2, 0));
        Check.is("hour", 1, () -> y.hours(1));
        Check.is("from now on", 10, () -> y.game(0, 1, 2, 1));
        Check.is("nobody went", 0, () -> y.person(0, 1));
    }

    // "how many; the first": none, when each choice is answered by another one.
    private static void gameNone() {
        SnowCanton z = Check.told("canton 3 2;height 0 5;height 1 3;height 2 1;height 4 9;man 0 1;child 5 0;roof 4 1;plough 2 2;"
                + "fall 0 1 10;fall 0 2 6;fall 1 3 8;fall 2 5 4;fall 2 1 2;");
        Check.is("none rests", 0, () -> z.game(0, 1, 2, 0));
        Check.is("no first", -1, () -> z.game(0, 1, 2, 1));
    }

    /** Like gains rest; to go to where one stands is to stay. */
    private static void gameOfStrangers() {
        SnowCanton x = Check.told("canton 3 1;man 0 0;plough 2 3;");
        Check.is("nothing falls: all four", 4, () -> x.game(0, 1, 1, 0));
        Check.is("the first of them", 0, () -> x.game(0, 1, 1, 1));
        SnowCanton y = Check.told("canton 3 1;man 0 0;child 2 0;fall 0 0 5;");
        Check.is("to where the first stands: his choices are alike", 4, () -> y.game(0, 1, 0, 0));
        SnowCanton last = Check.told("canton 3 1;man 0 0;man 2 0;fall 0 1 5;fall 1 1 5;fall 0 0 1;first 0-has;");
        Check.is("the first goes, the other gets nothing anyway", 2, () -> last.game(0, 1, 1, 0));
        Check.is("10", 10, () -> last.game(0, 1, 1, 1));
    }

    // "NoSuchElementException: also another what. IllegalArgumentException (behind that): both are one, a roof."
    private static void gameWrongInputs() {
        Check.Maker maker = () -> Check.told("canton 2 1;man 0 0;roof 0 0;child 1 0;");
        int[] wrong = {-1, 3, Integer.MIN_VALUE, Integer.MAX_VALUE};
        for (int n : wrong) {
            Check.leaves(maker, "game of " + n, Check.NO_SUCH, x -> x.game(n, 0, 0, 0));
            Check.leaves(maker, "game with " + n, Check.NO_SUCH, x -> x.game(0, n, 0, 0));
            Check.leaves(maker, "game of a roof with " + n, Check.NO_SUCH, x -> x.game(1, n, 0, 0));
            Check.leaves(maker, "game of " + n + " with itself", Check.NO_SUCH, x -> x.game(n, n, 0, 0));
            Check.leaves(maker, "game at " + n, Check.NO_SUCH, x -> x.game(0, 2, n, 0));
            Check.leaves(maker, "one with himself at " + n, Check.NO_SUCH, x -> x.game(0, 0, n, 0));
            Check.leaves(maker, "game's what " + n, Check.NO_SUCH, x -> x.game(0, 2, 0, n));
            Check.leaves(maker, "a roof's what " + n, Check.NO_SUCH, x -> x.game(0, 1, 0, n));
        }
        Check.leaves(maker, "what 2", Check.NO_SUCH, x -> x.game(0, 0, 0, 2));
        Check.leaves(maker, "cell 2", Check.NO_SUCH, x -> x.game(0, 0, 2, 0));
        Check.leaves(maker, "both are one", Check.ILLEGAL, x -> x.game(0, 0, 0, 0));
        Check.leaves(maker, "both are the last", Check.ILLEGAL, x -> x.game(2, 2, 1, 1));
        Check.leaves(maker, "the first is a roof", Check.ILLEGAL, x -> x.game(1, 0, 0, 0));
        Check.leaves(maker, "the other is a roof", Check.ILLEGAL, x -> x.game(0, 1, 0, 1));
        Check.leaves(maker, "both are one roof", Check.ILLEGAL, x -> x.game(1, 1, 0, 0));
        Check.leaves(maker, "a game", 4, x -> x.game(0, 2, 1, 0));
    }

    // Promise 27: "n HOURS (0 to 60) from now on", "FALLS as told count for nothing".
    private static void winterHours() {
        SnowCanton x = Check.told("canton 2 1;man 0 0;fall 0 0 5;fall 1 0 7;fall 1 1 3;");
        Check.is("no hours", 0, () -> x.winter(9, 0, 0));
        Check.is("hours", 2, () -> x.hours(2));
        Check.is("what lies counts", 15, () -> x.winter(9, 0, 0));
        Check.is("nobody's", 1, () -> x.winter(9, 0, 1));
        Check.is("who", 0, () -> x.winter(9, 0, 2));
        SnowCanton y = Check.told("fall 0 0 99;fall 1 0 99;");
        SnowCanton z = Check.told("");
        for (int n = 0; n <= 60; n++) {
            int hours = n;
            Check.is("falls count for nothing in " + n, Draws.flakes(77, 16, n), () -> y.winter(77, hours, 0));
            Check.is("nor without any in " + n, Draws.flakes(77, 16, n), () -> z.winter(77, hours, 0));
            Check.is("cells in " + n, Draws.cells(77, 16, n), () -> z.winter(77, hours, 1));
        }
    }

    /** Draws as the document tells them, of a canton without people. */
    private static final class Draws {
        private int seed;

        private Draws(int seed) {
            this.seed = seed;
        }

        private int of(int n) {
            long next = seed * 1103515245L + 12345L;
            seed = (int) next;
            return (int) ((next & 0x7fffffffL) / 65536 % n);
        }

        static int flakes(int seed, int cells, int hours) {
            Draws d = new Draws(seed);
            int sum = 0;
            for (int i = 0; i < hours; i++) {
                d.of(cells);
                sum += d.of(20);
            }
            return sum;
        }

        static int cells(int seed, int cells, int hours) {
            Draws d = new Draws(seed);
            int bits = 0;
            for (int i = 0; i < hours; i++) {
                int cell = d.of(cells);
                bits |= d.of(20) > 0 ? 1 << cell : 0;
            }
            return Integer.bitCount(bits);
        }
    }

    // "(an int that wraps); a DRAW of n is its bits 16 to 30 MOD n".
    private static void winterDraws() {
        int[] seeds = {0, 1, -1, 12345, -12345, Integer.MAX_VALUE, Integer.MIN_VALUE, 0x7fff0000, 0x80000000, 0xffff};
        for (int seed : seeds) {
            SnowCanton x = new SnowCanton();
            SnowCanton y = Check.told("canton 5 5;");
            for (int n = 0; n <= 60; n += 4) {
                int hours = n;
                Check.is("seed " + seed + ", flakes in " + n, Draws.flakes(seed, 16, n), () -> x.winter(seed, hours, 0));
                Check.is("seed " + seed + ", cells in " + n, Draws.cells(seed, 16, n), () -> x.winter(seed, hours, 1));
                Check.is("seed " + seed + ", who in " + n, -1, () -> x.winter(seed, hours, 2));
                Check.is("seed " + seed + ", 25 cells in " + n, Draws.cells(seed, 25, n), () -> y.winter(seed, hours, 1));
            }
        }
    }

    private static void winterOfOneCell() {
        SnowCanton x = Check.told("canton 1 1;");
        Check.is("one cell at most", 1, () -> x.winter(3, 60, 1));
        Check.is("all in it", Draws.flakes(3, 1, 60), () -> x.winter(3, 60, 0));
        // "if not 0": by some seed the first draw of 20 is 0, and the cell stays without a heap.
        int dry = 0;
        while (Draws.flakes(dry, 16, 1) != 0) {
            dry++;
        }
        int seed = dry;
        SnowCanton y = Check.told("man 0 3;man 3 3;man 12 3;man 15 3;");
        Check.is("no flakes", 0, () -> y.winter(seed, 1, 0));
        Check.is("no cells", 0, () -> y.winter(seed, 1, 1));
        Check.is("nobody has any", -1, () -> y.winter(seed, 1, 2));
    }

    /** By seed 0 the bits 16 to 30 are 0, 21468, 9988, 22117, 3498, 16927. */
    private static void winterWalks() {
        // Cell 0 gets 8; man 0 walks to the right (22117 MOD 4 is 1); cell 3498 MOD 3 is 0, 16927 MOD 20 is 7.
        SnowCanton x = Check.told("canton 3 1;man 0 0;");
        Check.is("both in cell 0", 15, () -> x.winter(0, 2, 0));
        Check.is("his heap stays his", 0, () -> x.winter(0, 2, 1));
        // Cell 3498 MOD 4 is 2: two to the right of 0 in a row of four, which hat 1 reaches only from 1.
        SnowCanton y = Check.told("canton 4 1;man 0 1;");
        Check.is("two cells", 15, () -> y.winter(0, 2, 0));
        Check.is("he walked to the right: none is nobody's", 0, () -> y.winter(0, 2, 1));
        SnowCanton still = Check.told("canton 4 1;man 0 0;");
        Check.is("hat 0 doesn't reach it", 1, () -> still.winter(0, 2, 1));
        SnowCanton roof = Check.told("canton 4 1;roof 0 1;");
        // A roof draws no way: the next cell is 22117 MOD 4, 1, that gets 3498 MOD 20, 18.
        Check.is("a roof stays", 26, () -> roof.winter(0, 2, 0));
        Check.is("and reaches 1", 0, () -> roof.winter(0, 2, 1));
        // Of two people 9988 MOD 2 is the first one.
        SnowCanton two = Check.told("canton 4 1;roof 3 0;man 0 1;");
        Check.is("the roof is drawn: no way", 26, () -> two.winter(0, 2, 0));
        SnowCanton turned = Check.told("canton 4 1;man 0 1;roof 3 0;");
        Check.is("the man is drawn, and a way", 15, () -> turned.winter(0, 2, 0));
        Check.is("nothing has changed", 0, () -> turned.person(0, 1));
    }

    // "he WALKS there, if there is a CELL": the way is drawn all the same.
    private static void winterOverTheEdge() {
        SnowCanton x = Check.told("canton 1 4;man 0 1;");
        // To the right there is no cell; 3498 MOD 4 is cell 2 below, far 2.
        Check.is("draws as before", 15, () -> x.winter(0, 2, 0));
        Check.is("he stayed: 2 is nobody's", 1, () -> x.winter(0, 2, 1));
        SnowCanton y = Check.told("canton 2 2;man 1 1;");
        Check.is("not round the edge: 2 is nobody's", 1, () -> y.winter(0, 2, 1));
    }

    /** An hour goes by in each: a child reaches farther in the even ones. */
    private static void winterHour() {
        // Cell 0 gets 8 in hour 0; 22117 MOD 3 is cell 1, 3498 MOD 20 is 18 in hour 1.
        SnowCanton x = Check.told("canton 3 1;roof 2 0;child 0 0;");
        Check.is("the roof is drawn", 26, () -> x.winter(0, 2, 0));
        Check.is("hour 1 is odd: the child doesn't reach 1", 1, () -> x.winter(0, 2, 1));
        Check.is("hour", 1, () -> x.hours(1));
        Check.is("from hour 1 on the second one is even", 0, () -> x.winter(0, 2, 1));
        SnowCanton y = Check.told("canton 3 1;roof 2 3;roof 1 3;first (hour=1)*(kind=2)*tall;height 1 3;");
        Check.is("of like ones the least has 8, the other one 18", 1, () -> y.winter(0, 2, 2));
    }

    // "who has most (of like ones the least; none: nobody has any)".
    private static void winterWho() {
        SnowCanton x = Check.told("canton 3 1;man 2 0;man 1 0;man 0 0;fall 0 1 5;fall 0 0 5;fall 0 2 4;");
        Check.is("none yet", -1, () -> x.winter(1, 0, 2));
        Check.is("hour", 1, () -> x.hours(1));
        Check.is("of like ones the least", 1, () -> x.winter(1, 0, 2));
        SnowCanton y = Check.told("canton 3 1;man 0 0;man 2 0;fall 0 1 99;fall 0 2 1;");
        Check.is("hour", 1, () -> y.hours(1));
        Check.is("not nobody, though he has more", 1, () -> y.winter(1, 0, 2));
        Check.is("100 lie", 100, () -> y.winter(1, 0, 0));
        Check.is("one cell nobody owns", 1, () -> y.winter(1, 0, 1));
    }

    private static void winterFull() {
        SnowCanton x = Check.told("canton 1 1;man 0 0;" + "fall 0 0 99;".repeat(24));
        Check.is("hours", 48, () -> x.hours(48));
        Check.is("hours", 96, () -> x.hours(48));
        Check.is("hours", 120, () -> x.hours(24));
        Check.is("9999 lie", 9999, () -> x.count(5));
        Check.is("9999 at most", 9999, () -> x.winter(5, 60, 0));
    }

    // "NoSuchElementException: another what. IllegalArgumentException (behind that): n."
    private static void winterWrongInputs() {
        Check.Maker maker = () -> Check.told("canton 2 1;man 0 0;fall 0 0 1;");
        int[] wrong = {-1, 61, Integer.MIN_VALUE, Integer.MAX_VALUE};
        for (int n : wrong) {
            for (int what = 0; what < 3; what++) {
                int w = what;
                Check.leaves(maker, "winter of " + n, Check.ILLEGAL, x -> x.winter(0, n, w));
            }
            Check.leaves(maker, "what 3 is ahead of " + n, Check.NO_SUCH, x -> x.winter(0, n, 3));
            Check.leaves(maker, "what -1 is ahead of " + n, Check.NO_SUCH, x -> x.winter(0, n, -1));
        }
        Check.leaves(maker, "what 3", Check.NO_SUCH, x -> x.winter(0, 0, 3));
        Check.leaves(maker, "what MIN", Check.NO_SUCH, x -> x.winter(0, 0, Integer.MIN_VALUE));
        Check.leaves(maker, "what MAX", Check.NO_SUCH, x -> x.winter(0, 0, Integer.MAX_VALUE));
        Check.leaves(maker, "60 hours", 1, x -> is(x.winter(0, 60, 0) > 0));
        Check.leaves(maker, "0 hours", 0, x -> x.winter(0, 0, 0));
    }

    private static SnowCanton used() {
        SnowCanton x = Check.told("canton 3 1;height 1 1;man 0 0;plough 1 0;child 2 1;fall 0 0 9;fall 0 1 8;fall 1 2 7;");
        x.hours(2);
        x.thaw(1);
        x.walk(0, 1);
        x.see(0, 3, 0);
        x.wind(9);
        x.see(0, 0, 0);
        return x;
    }

    // Promises 28, 29: "the HOUR, HEAPS, where PEOPLE stand, WATER, ACTS that are kept, what is SEEN, STATUS".
    private static void imageKeeps() {
        SnowCanton x = used();
        Check.is("none is kept yet", 0, () -> is(x.restore()));
        x.image();
        String before = Check.state(x);
        x.hours(48);
        x.push(1, 2);
        x.wind(1);
        x.thaw(5);
        x.walk(1, 2);
        x.see(1, 1, 1);
        x.hours(0);
        x.see(1, 0, 1);
        Check.holds("all is another", !Check.state(x).equals(before));
        Check.is("restored", 1, () -> is(x.restore()));
        Check.is("as it was", before, Check.state(x));
        Check.is("a fault", 1, () -> Check.read(x, "!"));
        Check.is("one refused", 1, () -> x.count(13));
        Check.is("restored again", 1, () -> is(x.restore()));
        Check.is("none refused", 0, () -> x.count(13));
        Check.is("the place of the latest fault is none of it", 0, x::fault);
        Check.is("feed", 20, () -> x.feed(1, 2, 3, 4, 5));
        Check.is("restored again", 1, () -> is(x.restore()));
        Check.is("nor is the tape", 20, () -> x.count(12));
        Check.is("undo of the walk", 2, x::undo);
        Check.is("he stands at 0", 0, () -> x.person(0, 1));
    }

    /** The acts that are kept are those of then, not those that came in their place. */
    private static void imageKeepsActs() {
        SnowCanton x = used();
        x.image();
        Check.is("undo", 2, x::undo);
        Check.is("undo", 1, x::undo);
        Check.is("undo", 0, x::undo);
        Check.is("others", 3, () -> x.hours(3));
        Check.is("others", 1, () -> x.walk(1, 0));
        Check.is("others", 0, () -> x.walk(1, 1));
        Check.is("others", 1, () -> x.walk(1, 2));
        Check.is("restored", 1, () -> is(x.restore()));
        Check.is("three", 3, () -> x.count(10));
        Check.is("undo of the walk", 2, x::undo);
        Check.is("he stands at 0", 0, () -> x.person(0, 1));
        Check.is("undo of the thaw", 1, x::undo);
        Check.is("nine lie", 9, () -> x.cell(0, 1));
        Check.is("no water", 0, () -> x.person(0, 5));
        Check.is("undo of the hours", 0, x::undo);
        Check.is("hour 0", 0, () -> x.count(4));
        Check.is("restored again, by all that was undone", 1, () -> is(x.restore()));
        Check.is("three", 3, () -> x.count(10));
    }

    private static void imageKeepsForty() {
        SnowCanton x = new SnowCanton();
        for (int i = 0; i < 45; i++) {
            x.hours(1);
        }
        x.image();
        for (int i = 0; i < 17; i++) {
            x.hours(2);
        }
        Check.is("hour", 79, () -> x.count(4));
        Check.is("restored", 1, () -> is(x.restore()));
        Check.is("40 are kept", 40, () -> x.count(10));
        for (int i = 39; i >= 0; i--) {
            int left = i;
            Check.is("undo", left, x::undo);
            Check.is("the hour", 5 + left, () -> x.count(4));
        }
        Check.is("none", -1, x::undo);
        Check.is("restored", 1, () -> is(x.restore()));
        Check.is("the hour", 45, () -> x.count(4));
        Check.is("one more act", 46, () -> x.hours(1));
        Check.is("40 still", 40, () -> x.count(10));
        Check.is("undo", 39, x::undo);
        Check.is("the hour", 45, () -> x.count(4));
    }

    private static void imageKeepsSeen() {
        SnowCanton x = Check.told("canton 3 1;man 0 0;fall 0 1 1;fall 1 2 1;");
        Check.is("2 is his in 2", 1, () -> x.see(2, 2, 0));
        Check.is("by 2 and 3", 2, () -> x.hat(0));
        x.image();
        x.forget();
        Check.is("1 is nobody's in 1", 1, () -> x.see(1, 1, -1));
        Check.is("by no other hat", 0, () -> x.hat(0));
        Check.is("so without", 1, () -> x.hat(2));
        Check.is("0 is his in 24", 2, () -> x.see(0, 24, 0));
        Check.is("not so without", 0, () -> x.hat(2));
        Check.is("restored", 1, () -> is(x.restore()));
        Check.is("one is seen", 1, () -> x.count(11));
        Check.is("by 2 and 3 again", 2, () -> x.hat(0));
        Check.is("the first", 2, () -> x.hat(1));
        Check.is("not without", 0, () -> x.hat(2));
    }

    // "An IMAGE is kept, in place of another one."
    private static void imageAnother() {
        SnowCanton x = used();
        x.image();
        Check.is("hours", 5, () -> x.hours(3));
        x.image();
        Check.is("hours", 6, () -> x.hours(1));
        Check.is("restored", 1, () -> is(x.restore()));
        Check.is("the latest", 5, () -> x.count(4));
        Check.is("it stays kept", 1, () -> is(x.restore()));
        Check.is("the latest", 5, () -> x.count(4));
        Check.is("undo", 3, x::undo);
        Check.is("goes behind it", 2, () -> x.count(4));
        SnowCanton empty = new SnowCanton();
        empty.image();
        Check.is("of a new object", 1, () -> empty.hours(1));
        Check.is("restored", 1, () -> is(empty.restore()));
        Check.is("hour 0", 0, () -> empty.count(4));
        Check.is("no acts", 0, () -> empty.count(10));
    }

    // "False: there is none."; a text without a fault takes it away, one with a fault doesn't.
    private static void imageGone() {
        Check.leaves(SnowCanton::new, "no image", 0, x -> is(x.restore()));
        Check.leaves(EdgeGameTest::used, "no image yet", 0, x -> is(x.restore()));
        Check.leaves(() -> {
            SnowCanton x = used();
            x.image();
            Check.read(x, "canton 3 1;man 0 0;");
            x.hours(1);
            return x;
        }, "gone by a text", 0, x -> is(x.restore()));
        SnowCanton y = used();
        y.image();
        Check.is("a fault", 1, () -> Check.read(y, "canton"));
        Check.is("an illegal n", Check.ILLEGAL, () -> y.canton(1));
        Check.is("still there", 1, () -> is(y.restore()));
        Check.is("its hour", 2, () -> y.count(4));
    }
}
