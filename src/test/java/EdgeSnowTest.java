/** The document's edges of touching, falling, lying and running off, and promises 5 to 7, sentence by sentence. */
final class EdgeSnowTest {
    private static final int[] NO_SUCH_WHAT = {-1, Integer.MIN_VALUE, Integer.MAX_VALUE};

    private EdgeSnowTest() {
    }

    public static void main(String[] args) {
        touching();
        evenHours();
        severalInOne();
        heapStaysWhose();
        ofLikeOnes();
        fallsInTheirOrder();
        hourOfTheDay();
        atMost9999();
        counts();
        countedBits();
        poor();
        cells();
        bareGround();
        waterRuns();
        theSea();
        persons();
        companies();
        wrongInputs();
        Check.end("EdgeSnowTest");
    }

    // "FAR is the sum of both differences", "if FAR .. is no more than HAT (of a child 1 more ..; of a plough 0)".
    private static void touching() {
        String[] kinds = {"man", "child", "roof", "plough"};
        int[] places = {0, 12, 24, 9};
        for (int kind = 0; kind < 4; kind++) {
            for (int hat = 0; hat <= 3; hat++) {
                for (int place : places) {
                    int reach = kind == 3 ? 0 : kind == 1 ? hat + 1 : hat;
                    String one = kinds[kind] + " " + place + " " + hat + ";";
                    SnowCanton x = Check.told("canton 5 5;" + one);
                    for (int c = 0; c < 25; c++) {
                        int cell = c;
                        int far = Math.abs(c % 5 - place % 5) + Math.abs(c / 5 - place / 5);
                        Check.is(one + " touches " + c, far <= reach ? 1 : 0, () -> x.cell(cell, 3));
                        Check.is(one + " gets " + c, far <= reach ? 0 : -1, () -> x.cell(cell, 4));
                    }
                }
            }
        }
    }

    // "of a child 1 more, in even hours of the day".
    private static void evenHours() {
        SnowCanton x = Check.told("canton 5 1;child 0 2;man 0 2;roof 0 2;");
        int hour = 0;
        int[] next = {1, 2, 3, 22, 23, 24, 25, 48, 49, 50};
        Check.is("hour 0", 1, () -> x.cell(3, 3));
        for (int to : next) {
            int by = to - hour;
            Check.is("hours", to, () -> x.hours(by));
            Check.is("far 3 at hour " + to, to % 2 == 0 ? 1 : 0, () -> x.cell(3, 3));
            Check.is("far 2 at hour " + to, 7, () -> x.cell(2, 3));
            Check.is("far 4 at hour " + to, 0, () -> x.cell(4, 3));
            hour = to;
        }
        SnowCanton y = Check.told("canton 3 1;child 0 0;fall 0 1 5;fall 1 1 6;");
        Check.is("two hours", 2, () -> y.hours(2));
        Check.is("caught in the even one, his in the odd one", 11, () -> y.person(0, 3));
        SnowCanton z = Check.told("canton 3 1;child 0 0;fall 1 1 6;fall 2 1 5;");
        Check.is("three hours", 3, () -> z.hours(3));
        Check.is("nobody's in the odd one, nobody's still in the even one", 11, () -> z.count(6));
    }

    // "a CELL (several may be in one)".
    private static void severalInOne() {
        SnowCanton x = Check.told("man 5 0;".repeat(8) + "fall 0 5 3;");
        Check.is("all eight touch", 255, () -> x.cell(5, 3));
        Check.is("none touches the next", 0, () -> x.cell(6, 3));
        Check.is("hour", 1, () -> x.hours(1));
        Check.is("the least has it", 3, () -> x.person(0, 3));
        Check.is("the others none", 0, () -> x.person(7, 3));
        Check.is("walk off", 5, () -> x.walk(7, 6));
        Check.is("walk back", 6, () -> x.walk(7, 5));
        Check.is("all eight touch", 255, () -> x.cell(5, 3));
    }

    // "a HEAP that is there stays whose it is".
    private static void heapStaysWhose() {
        SnowCanton x = Check.told("canton 3 1;man 0 0;man 1 0;fall 0 0 1;fall 1 0 2;fall 2 2 4;fall 3 2 8;first hat;");
        Check.is("hour", 1, () -> x.hours(1));
        Check.is("man 0 walks off", 0, () -> x.walk(0, 1));
        Check.is("man 1 walks there", 1, () -> x.walk(1, 0));
        Check.is("hour", 2, () -> x.hours(1));
        Check.is("it is man 0's", 3, () -> x.person(0, 3));
        Check.is("on bare ground it would be man 1's", 1, () -> x.cell(0, 4));
        Check.is("hour", 3, () -> x.hours(1));
        Check.is("nobody's", -1, () -> x.cell(2, 2));
        Check.is("man 0 walks to it", 1, () -> x.walk(0, 2));
        Check.is("hour", 4, () -> x.hours(1));
        Check.is("nobody's still", 12, () -> x.count(6));
        Check.is("thaw all of it", 15, () -> x.thaw(12));
        Check.is("a day", 28, () -> x.hours(24));
        Check.is("on bare ground it is his now", 12, () -> x.person(0, 3));
        Check.is("and the other man 1's", 3, () -> x.person(1, 3));
    }

    private static void ofLikeOnes() {
        SnowCanton x = Check.told("canton 3 1;man 2 1;man 0 1;fall 0 1 7;");
        Check.is("hour", 1, () -> x.hours(1));
        Check.is("the least of PEOPLE, not of CELLS", 7, () -> x.person(0, 3));
    }

    // "FALL by FALL .. in their order".
    private static void fallsInTheirOrder() {
        SnowCanton x = Check.told("canton 2 1;man 0 1;man 1 1;fall 0 1 9;fall 0 0 5;first (has=0)*far;");
        Check.is("hour", 1, () -> x.hours(1));
        Check.is("the first told comes first", 9, () -> x.person(0, 3));
        Check.is("then the other", 5, () -> x.person(1, 3));
        SnowCanton y = Check.told("canton 2 1;man 0 1;man 1 1;fall 0 0 5;fall 0 1 9;first (has=0)*far;");
        Check.is("hour", 1, () -> y.hours(1));
        Check.is("the other way round", 5, () -> y.person(1, 3));
        Check.is("the other way round", 9, () -> y.person(0, 3));
    }

    // "of the hour of the day (HOUR MOD 24)", "The HOUR is one more then".
    private static void hourOfTheDay() {
        SnowCanton x = Check.told("canton 2 1;fall 0 0 1;fall 23 1 1;");
        int[][] due = {{1, 1, 0}, {23, 1, 0}, {24, 1, 1}, {25, 2, 1}, {47, 2, 1}, {48, 2, 2}, {49, 3, 2}};
        int before = 0;
        for (int[] d : due) {
            int by = d[0] - before;
            Check.is("hours", d[0], () -> x.hours(by));
            Check.is("of hour 0 at " + d[0], d[1], () -> x.cell(0, 1));
            Check.is("of hour 23 at " + d[0], d[2], () -> x.cell(1, 1));
            before = d[0];
        }
    }

    /** 9999 flakes lie in cell 0, and hour 0 of a day is next. */
    private static SnowCanton full(String more) {
        SnowCanton x = Check.told("canton 3 1;man 0 0;plough 0 0;" + more + "fall 0 0 99;".repeat(21));
        for (int day = 1; day <= 5; day++) {
            Check.is("a day", 24 * day, () -> x.hours(24));
        }
        return x;
    }

    // "9999 at most lie there".
    private static void atMost9999() {
        SnowCanton x = Check.told("canton 1 1;" + "fall 0 0 99;".repeat(23) + "fall 1 0 81;");
        Check.is("four days and an hour", 48, () -> x.hours(48));
        Check.is("four days and an hour", 96, () -> x.hours(48));
        Check.is("four days and an hour", 97, () -> x.hours(1));
        Check.is("101 times 99", 9999, () -> x.count(5));
        Check.is("all told", 9999, () -> x.cell(0, 1));
        Check.is("lost over the edge", 4999, () -> x.wind(0));
        Check.is("what is left", 5000, () -> x.cell(0, 1));
        SnowCanton y = full("fall 1 1 99;");
        Check.is("5 times 2079 is more", 9999, () -> y.cell(0, 1));
        Check.is("wind to a heap of 495", 0, () -> y.wind(1));
        Check.is("248 and 4999", 5247, () -> y.cell(1, 1));
        Check.is("undone", 5, y::undo);
        Check.is("push onto it", 9999, () -> y.push(1, 1));
        Check.is("9999 there", 9999, () -> y.cell(1, 1));
        Check.is("nobody's, as it was", -1, () -> y.cell(1, 2));
        Check.is("none here", 0, () -> y.cell(0, 1));
        SnowCanton z = full("");
        Check.is("a push to bare ground", 9999, () -> z.push(1, 1));
        Check.is("his there", 0, () -> z.cell(1, 2));
        SnowCanton w = full("fall 1 1 99;");
        Check.is("three days more", 168, () -> w.hours(48));
        Check.is("9999 in all but 7 times 99", 9999 + 693, () -> w.count(5));
        Check.is("he has 9999 at most", 9999, () -> w.person(0, 3));
        Check.is("then, too", 9999, () -> w.then(0, 48));
    }

    // Promise 5: what each number of count() is; "another what".
    private static void counts() {
        SnowCanton x = Check.told("canton 2 3;man 0 1;child 1 0;roof 2 1;fall 0 0 10;fall 0 5 6;fall 1 1 7;fall 9 3 1;");
        Check.is("hours", 2, () -> x.hours(2));
        Check.is("thaw", 12, () -> x.thaw(4));
        Check.is("see", 1, () -> x.see(0, 1, 0));
        Check.is("see", 2, () -> x.see(1, 1, 1));
        Check.is("a fault", 1, () -> Check.read(x, "x"));
        Check.is("refused", -1, () -> x.wind(4));
        Check.is("refused", -1, () -> x.thaw(0));
        Check.is("refused", -1, () -> x.see(0, 0, 0));
        Check.is("refused", -1, () -> x.see(0, 25, 0));
        Check.is("refused", -1, () -> x.see(0, 1, 3));
        Check.is("feed", 20, () -> x.feed(1, 2, 3, 4, 5));
        int[] due = {2, 3, 3, 4, 2, 11, 2, 1 + 2 + 32, 4, 4, 2, 2, 20, 1, 2, 3};
        for (int i = 0; i < 16; i++) {
            int what = i;
            Check.is("count(" + i + ")", due[i], () -> x.count(what));
        }
        Check.is("count(16)", Check.NO_SUCH, () -> x.count(16));
    }

    // "7 CELLS with a HEAP (bits)": a single flake is a heap, the last cell has a bit.
    private static void countedBits() {
        SnowCanton x = Check.told("canton 5 5;man 24 0;fall 0 24 1;fall 0 0 1;fall 1 12 99;");
        Check.is("none yet", 0, () -> x.count(7));
        Check.is("hour", 1, () -> x.hours(1));
        Check.is("0 and 24", 1 | 1 << 24, () -> x.count(7));
        Check.is("his", 1 << 24, () -> x.person(0, 4));
        Check.is("hour", 2, () -> x.hours(1));
        Check.is("12, too", 1 | 1 << 12 | 1 << 24, () -> x.count(7));
        Check.is("thaw, 12 being a pond", 2, () -> x.thaw(1));
        Check.is("12 alone", 1 << 12, () -> x.count(7));
        Check.is("he has none", 0, () -> x.person(0, 4));
    }

    // "PEOPLE who have less than an eighth of what all have together (nobody's not counted)".
    private static void poor() {
        int[][] has = {{10, 70}, {10, 71}, {10, 69}, {0, 1}, {0, 0}, {1, 7}, {1, 8}, {99, 99}};
        int[] due = {0, 1, 0, 1, 0, 0, 1, 0};
        for (int i = 0; i < has.length; i++) {
            String text = "canton 5 1;man 0 0;man 2 0;fall 0 4 99;";
            for (int p = 0; p < 2; p++) {
                text += has[i][p] > 0 ? "fall 0 " + 2 * p + " " + has[i][p] + ";" : "";
            }
            String told = text;
            SnowCanton x = Check.told(text);
            Check.is("hour", 1, () -> x.hours(1));
            Check.is("the poor of " + told, due[i], () -> x.count(8));
        }
        SnowCanton alone = Check.told("man 0 0;fall 0 0 1;");
        Check.is("hour", 1, () -> alone.hours(1));
        Check.is("one alone", 0, () -> alone.count(8));
        SnowCanton rich = Check.told("canton 2 1;" + "man 0 0;".repeat(7) + "man 1 0;fall 0 1 1;");
        Check.is("hour", 1, () -> rich.hours(1));
        Check.is("all but the last", 127, () -> rich.count(8));
    }

    // Promise 6: what each number of cell() is.
    private static void cells() {
        SnowCanton x = Check.told("canton 3 2;height 4 3;height 1 5;man 4 0;child 3 0;roof 2 3;fall 0 4 6;");
        Check.is("hour", 1, () -> x.hours(1));
        int[][] due = {
            {0, 0, -1, 4, 2, 0, 1}, {5, 0, -1, 4, 2, 0, 1}, {0, 0, -1, 4, 2, 2, 1},
            {0, 0, -1, 6, 1, 3, 1}, {3, 6, 0, 5, 0, 3, 1}, {0, 0, -1, 4, 2, 5, 1},
        };
        for (int c = 0; c < 6; c++) {
            for (int w = 0; w < 7; w++) {
                int cell = c;
                int what = w;
                Check.is("cell(" + c + ", " + w + ")", due[c][w], () -> x.cell(cell, what));
            }
        }
    }

    // "4 whose it would be, did it fall there on bare ground now".
    private static void bareGround() {
        SnowCanton x = Check.told("canton 2 1;man 0 0;man 1 0;fall 0 0 3;");
        Check.is("hour", 1, () -> x.hours(1));
        Check.is("changes places", 0, () -> x.walk(0, 1));
        Check.is("changes places", 1, () -> x.walk(1, 0));
        Check.is("whose it is", 0, () -> x.cell(0, 2));
        Check.is("whose it would be", 1, () -> x.cell(0, 4));
        SnowCanton y = Check.told("canton 3 1;child 0 1;");
        Check.is("in an even hour", 0, () -> y.cell(2, 4));
        Check.is("hour", 1, () -> y.hours(1));
        Check.is("in an odd hour", -1, () -> y.cell(2, 4));
    }

    // "WATER runs .. to the neighbour of least HEIGHT, if that is less than its own (of like ones the least CELL), and on".
    private static void waterRuns() {
        // 9 8 7 6 5   round to the lowest row; from the row below straight down
        // 9 9 9 9 4
        // 1 1 1 2 3
        SnowCanton x = Check.told("canton 5 3;height 0 9;height 1 8;height 2 7;height 3 6;height 4 5;height 9 4;height 14 3;"
                + "height 5 9;height 6 9;height 7 9;height 8 9;height 10 1;height 11 1;height 12 1;height 13 2;");
        int[] ends = {12, 12, 12, 12, 12, 10, 11, 12, 12, 12, 10, 11, 12, 12, 12};
        for (int c = 0; c < 15; c++) {
            int cell = c;
            Check.is("water from " + c, ends[c], () -> x.cell(cell, 5));
        }
        SnowCanton round = Check.told("canton 3 3;height 2 0;height 3 5;height 0 5;height 4 5;height 6 5;height 5 1;");
        Check.is("not round the edge to 2", 3, () -> round.cell(3, 5));
        Check.is("but from 5", 2, () -> round.cell(5, 5));
        SnowCanton y = Check.told("canton 3 3;height 4 1;");
        Check.is("of four like ones the least", 1, () -> y.cell(4, 5));
        SnowCanton z = Check.told("canton 3 3;height 4 2;height 1 1;");
        Check.is("of three", 3, () -> z.cell(4, 5));
        SnowCanton v = Check.told("canton 3 3;height 4 2;height 1 1;height 3 1;");
        Check.is("of two", 5, () -> v.cell(4, 5));
        SnowCanton w = Check.told("canton 3 3;height 4 2;height 1 1;height 3 1;height 5 1;");
        Check.is("of one", 7, () -> w.cell(4, 5));
        SnowCanton like = Check.told("canton 3 3;height 0 4;height 1 4;height 2 4;height 3 4;height 4 4;height 5 4;"
                + "height 6 4;height 7 4;height 8 4;");
        Check.is("a like height is not less", 4, () -> like.cell(4, 5));
        Check.is("that is a pond", 0, () -> like.cell(4, 6));
        Check.is("it ends at the edge itself", 0, () -> like.cell(0, 5));
    }

    // "THE SEA are CELLS at the edge (from which none is lower): where it ends is THE SEA, or a pond."
    private static void theSea() {
        SnowCanton x = Check.told("canton 5 5;fall 0 0 1;");
        for (int c = 0; c < 25; c++) {
            int cell = c;
            boolean isEdge = c < 5 || c > 19 || c % 5 == 0 || c % 5 == 4;
            Check.is("sea at " + c, isEdge ? 1 : 0, () -> x.cell(cell, 6));
        }
        SnowCanton y = Check.told("canton 3 3;height 0 5;height 1 1;height 2 5;height 3 1;height 5 1;height 6 5;height 7 1;"
                + "fall 0 1 5;fall 0 4 6;fall 0 8 7;");
        for (int c = 0; c < 9; c++) {
            int cell = c;
            Check.is("an edge from which one is lower is no sea: " + c, c == 8 ? 1 : 0, () -> y.cell(cell, 6));
            Check.is("water ends in the pond from " + c, c == 8 ? 8 : 4, () -> y.cell(cell, 5));
        }
        Check.is("hour", 1, () -> y.hours(1));
        Check.is("water to the sea from 8 alone", 4, () -> y.thaw(4));
        Check.is("what runs to the pond is gone all the same", 1, () -> y.cell(1, 1));
        Check.is("and what lies in it", 2, () -> y.cell(4, 1));
        Check.is("nobody's water", 4, () -> y.count(9));
        SnowCanton z = Check.told("canton 1 1;height 0 9;");
        Check.is("one cell is the sea", 1, () -> z.cell(0, 6));
        SnowCanton w = Check.told("canton 2 5;height 4 0;height 5 9;");
        Check.is("of two columns all are edge", 1, () -> w.cell(4, 6));
    }

    // Promise 7: what each number of person() is.
    private static void persons() {
        SnowCanton x = Check.told("canton 4 1;plough 3 2;child 0 3;fall 0 0 3;fall 0 2 4;fall 0 3 5;");
        int[] before = {3, 3, 2, 0, 0, 0, 0, 0};
        for (int w = 0; w < 8; w++) {
            int what = w;
            Check.is("person(0, " + w + ") at first", before[w], () -> x.person(0, what));
        }
        Check.is("hour", 1, () -> x.hours(1));
        Check.is("walks", 3, () -> x.walk(0, 2));
        Check.is("thaw", 6, () -> x.thaw(2));
        int[][] due = {{3, 2, 2, 3, 8, 2, 1, 1}, {1, 0, 3, 3, 5, 4, 2, 1}};
        for (int p = 0; p < 2; p++) {
            for (int w = 0; w < 8; w++) {
                int person = p;
                int what = w;
                Check.is("person(" + p + ", " + w + ")", due[p][w], () -> x.person(person, what));
            }
        }
    }

    // "A COMPANY: CELLS with HEAPS of one owner, joined by neighbours: how many of one; the most CELLS in one."
    private static void companies() {
        company("canton 5 5;", new int[] {}, 0, 0);
        company("canton 5 5;", new int[] {12}, 1, 1);
        company("canton 3 2;", new int[] {0, 1}, 1, 2);
        company("canton 3 2;", new int[] {0, 4}, 2, 1);
        company("canton 3 2;", new int[] {2, 3}, 2, 1);
        company("canton 3 3;", new int[] {0, 2, 3, 5, 6, 7, 8}, 1, 7);
        company("canton 5 1;", new int[] {0, 2, 3, 4}, 2, 3);
        company("canton 5 1;", new int[] {0, 1, 2, 4}, 2, 3);
        company("canton 2 5;", new int[] {1, 4, 6, 7, 9}, 2, 4);
        company("canton 3 3;", new int[] {0, 2, 4, 6, 8}, 5, 1);
        company("canton 3 3;", new int[] {0, 1, 2, 3, 4, 5, 6, 7, 8}, 1, 9);
        company("canton 5 3;", new int[] {0, 1, 2, 3, 4, 9, 14, 13, 12, 11, 10}, 1, 11);
        SnowCanton x = Check.told("canton 3 1;man 0 0;man 1 0;man 2 0;fall 0 0 1;fall 0 1 1;fall 0 2 1;");
        Check.is("hour", 1, () -> x.hours(1));
        Check.is("another's cell joins none", 1, () -> x.person(0, 7));
        Check.is("nobody's cell joins none, walks", 0, () -> x.walk(0, 1));
        Check.is("push needs a plough", -1, () -> x.push(0, 2));
        Check.is("one company each", 1, () -> x.person(2, 6));
        SnowCanton all = new SnowCanton();
        StringBuilder text = new StringBuilder("canton 5 5;man 11 3;man 13 3;first 1;");
        for (int c = 1; c < 24; c++) {
            text.append("fall 0 ").append(c).append(" 1;");
        }
        Check.is("all cells that two touch", 0, () -> Check.read(all, text.toString()));
        Check.is("hour", 1, () -> all.hours(1));
        Check.is("the first one's company", 1, () -> all.person(0, 6));
        Check.is("has 18 cells", 18, () -> all.person(0, 7));
        Check.is("the other one's are 3, 4, 9 and 19 and 23", 3, () -> all.person(1, 6));
        Check.is("of three cells", 3, () -> all.person(1, 7));
    }

    /** Man 0 gets a flake on each of these cells, one hour each, walking there. */
    private static void company(String size, int[] cells, int many, int most) {
        StringBuilder told = new StringBuilder(size).append("man 0 0;");
        for (int i = 0; i < cells.length; i++) {
            told.append("fall ").append(i).append(' ').append(cells[i]).append(" 1;");
        }
        SnowCanton x = Check.told(told.toString());
        int wide = x.count(0);
        int at = 0;
        for (int cell : cells) {
            for (; at % wide < cell % wide; at++) {
                x.walk(0, at + 1);
            }
            for (; at % wide > cell % wide; at--) {
                x.walk(0, at - 1);
            }
            for (; at < cell; at += wide) {
                x.walk(0, at + wide);
            }
            for (; at > cell; at -= wide) {
                x.walk(0, at - wide);
            }
            x.hours(1);
        }
        int bits = 0;
        for (int cell : cells) {
            bits |= 1 << cell;
        }
        int due = bits;
        Check.is("cells of " + told, due, () -> x.person(0, 4));
        Check.is("companies of " + told, many, () -> x.person(0, 6));
        Check.is("most in one of " + told, most, () -> x.person(0, 7));
    }

    // "no such CELL (as everywhere), what", "no such PERSON (as everywhere), what".
    private static void wrongInputs() {
        Check.Maker maker = () -> Check.told("canton 3 1;man 0 0;child 1 1;");
        for (int n : NO_SUCH_WHAT) {
            Check.leaves(maker, "count(" + n + ")", Check.NO_SUCH, x -> x.count(n));
            Check.leaves(maker, "cell(" + n + ", 0)", Check.NO_SUCH, x -> x.cell(n, 0));
            Check.leaves(maker, "cell(0, " + n + ")", Check.NO_SUCH, x -> x.cell(0, n));
            Check.leaves(maker, "person(" + n + ", 0)", Check.NO_SUCH, x -> x.person(n, 0));
            Check.leaves(maker, "person(0, " + n + ")", Check.NO_SUCH, x -> x.person(0, n));
        }
        Check.leaves(maker, "count(16)", Check.NO_SUCH, x -> x.count(16));
        Check.leaves(maker, "cell(3, 0)", Check.NO_SUCH, x -> x.cell(3, 0));
        Check.leaves(maker, "cell(0, 7)", Check.NO_SUCH, x -> x.cell(0, 7));
        Check.leaves(maker, "person(2, 0)", Check.NO_SUCH, x -> x.person(2, 0));
        Check.leaves(maker, "person(0, 8)", Check.NO_SUCH, x -> x.person(0, 8));
        Check.leaves(maker, "cell(2, 6)", 1, x -> x.cell(2, 6));
        Check.leaves(maker, "person(1, 7)", 0, x -> x.person(1, 7));
    }
}
