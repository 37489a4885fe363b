/** The document's edges of ACTS and promises 8 to 13, sentence by sentence. */
final class EdgeActsTest {
    private static final int[] FAR_OFF = {Integer.MIN_VALUE, -2, -1, Integer.MAX_VALUE};

    private EdgeActsTest() {
    }

    public static void main(String[] args) {
        hoursRefused();
        hoursUpTo48();
        hoursUpTo9999();
        walkRefused();
        walkAsItWas();
        windRefused();
        windCutDown();
        windMovesNoneTwice();
        windOverEachEdge();
        windIsWhose();
        thawRefused();
        thawOrAll();
        thawForWhom();
        pushRefused();
        pushAll();
        pushIsWhose();
        undoEachAct();
        undoNone();
        fortyAreKept();
        refusedAreNotKept();
        Check.end("EdgeActsTest");
    }

    private static void heap(SnowCanton x, int cell, int flakes, int whose) {
        Check.is("flakes of " + cell, flakes, () -> x.cell(cell, 1));
        Check.is("owner of " + cell, whose, () -> x.cell(cell, 2));
    }

    private static SnowCanton small() {
        SnowCanton x = Check.told("canton 2 2;man 0 0;roof 1 0;plough 0 0;fall 0 0 9;fall 0 1 8;fall 0 3 7;");
        Check.is("hour", 1, () -> x.hours(1));
        return x;
    }

    // Promise 8: "NONE (STATUS 1): not 1 to 48".
    private static void hoursRefused() {
        for (int n : FAR_OFF) {
            Check.refused(EdgeActsTest::small, "hours(" + n + ")", 1, x -> x.hours(n));
        }
        Check.refused(EdgeActsTest::small, "hours(0)", 1, x -> x.hours(0));
        Check.refused(EdgeActsTest::small, "hours(49)", 1, x -> x.hours(49));
    }

    private static void hoursUpTo48() {
        SnowCanton x = Check.told("fall 0 0 1;fall 23 0 1;");
        Check.is("1", 1, () -> x.hours(1));
        Check.is("one fell", 1, () -> x.count(5));
        Check.is("48 more", 49, () -> x.hours(48));
        Check.is("four fell", 5, () -> x.count(5));
        Check.is("two acts", 2, () -> x.count(10));
        Check.is("undone at once", 1, x::undo);
        Check.is("hour 1", 1, () -> x.count(4));
        Check.is("as at hour 1", 1, () -> x.count(5));
    }

    // "it would be above 9999".
    private static void hoursUpTo9999() {
        SnowCanton x = Check.told("canton 1 1;man 0 0;fall 15 0 1;");
        for (int i = 1; i <= 208; i++) {
            x.hours(48);
        }
        Check.is("9984", 9984, () -> x.count(4));
        Check.is("16 would be 10000", -1, () -> x.hours(16));
        Check.is("48 would be more", -1, () -> x.hours(48));
        Check.is("both refused", 2, () -> x.count(14));
        Check.is("9998", 9998, () -> x.hours(14));
        Check.is("9999 is not above 9999", 9999, () -> x.hours(1));
        Check.is("one more is", -1, () -> x.hours(1));
        Check.is("three refused", 3, () -> x.count(14));
        Check.is("what lies", 416, () -> x.count(5));
        Check.is("then, all the same: hour 15 is next", 417, () -> x.then(0, 1));
        Check.is("to come", 2, () -> x.coming(0, 48));
        Check.is("other acts go on", 0, () -> x.wind(2) - 208);
        Check.is("undo goes on", 39, x::undo);
    }

    // Promise 9: "NONE (STATUS 1): a roof, no neighbour. NoSuchElementException (ahead): no such PERSON, CELL."
    private static void walkRefused() {
        Check.refused(EdgeActsTest::small, "a roof walks", 1, x -> x.walk(1, 0));
        Check.refused(EdgeActsTest::small, "a roof stays", 1, x -> x.walk(1, 1));
        Check.refused(EdgeActsTest::small, "walk to where he stands", 1, x -> x.walk(0, 0));
        Check.refused(EdgeActsTest::small, "walk askew", 1, x -> x.walk(0, 3));
        for (int n : FAR_OFF) {
            Check.leaves(EdgeActsTest::small, "person " + n, Check.NO_SUCH, x -> x.walk(n, 1));
            Check.leaves(EdgeActsTest::small, "cell " + n, Check.NO_SUCH, x -> x.walk(0, n));
            Check.leaves(EdgeActsTest::small, "a roof to cell " + n, Check.NO_SUCH, x -> x.walk(1, n));
        }
        Check.leaves(EdgeActsTest::small, "person 3", Check.NO_SUCH, x -> x.walk(3, 1));
        Check.leaves(EdgeActsTest::small, "cell 4", Check.NO_SUCH, x -> x.walk(0, 4));
        Check.leaves(EdgeActsTest::small, "a roof to cell 4", Check.NO_SUCH, x -> x.walk(1, 4));
        Check.refused(() -> Check.told("canton 3 3;man 3 0;"), "over the left edge", 1, x -> x.walk(0, 2));
        Check.refused(() -> Check.told("canton 3 3;man 5 0;"), "over the right edge", 1, x -> x.walk(0, 6));
        Check.refused(() -> Check.told("canton 3 3;child 4 0;"), "two off", 1, x -> x.walk(0, 8));
        Check.refused(() -> Check.told("canton 5 1;plough 1 0;"), "two off", 1, x -> x.walk(0, 3));
        Check.refused(() -> Check.told("canton 1 1;man 0 0;"), "no neighbour at all", 1, x -> x.walk(0, 0));
    }

    // "WALKS: the CELL as it was."
    private static void walkAsItWas() {
        SnowCanton x = Check.told("canton 2 2;man 3 0;child 3 0;plough 0 0;");
        Check.is("up", 3, () -> x.walk(0, 1));
        Check.is("left", 1, () -> x.walk(0, 0));
        Check.is("down", 0, () -> x.walk(0, 2));
        Check.is("right", 2, () -> x.walk(0, 3));
        Check.is("a child", 3, () -> x.walk(1, 2));
        Check.is("a plough", 0, () -> x.walk(2, 2));
        Check.is("stands with the child", 2, () -> x.person(2, 1));
        Check.is("six acts", 6, () -> x.count(10));
    }

    // Promise 10: "NONE (STATUS 1): not 0 to 3."
    private static void windRefused() {
        for (int n : FAR_OFF) {
            Check.refused(EdgeActsTest::small, "wind(" + n + ")", 1, x -> x.wind(n));
        }
        Check.refused(EdgeActsTest::small, "wind(4)", 1, x -> x.wind(4));
    }

    // "half of a HEAP, cut down".
    private static void windCutDown() {
        int[] lies = {1, 2, 3, 4, 98, 99};
        for (int n : lies) {
            SnowCanton x = Check.told("canton 2 1;man 0 0;fall 0 0 " + n + ";");
            Check.is("hour", 1, () -> x.hours(1));
            Check.is("none over the edge", 0, () -> x.wind(1));
            heap(x, 0, n - n / 2, 0);
            heap(x, 1, n / 2, n > 1 ? 0 : -1);
            SnowCanton y = Check.told("canton 2 1;man 0 0;fall 0 0 " + n + ";");
            Check.is("hour", 1, () -> y.hours(1));
            Check.is("half of " + n + " over the edge", n / 2, () -> y.wind(3));
            heap(y, 0, n - n / 2, 0);
        }
    }

    // "CELL by CELL, those in whose direction it blows first (so that none moves twice)".
    private static void windMovesNoneTwice() {
        String falls = "fall 0 0 16;fall 0 1 16;fall 0 2 16;fall 0 3 16;fall 0 4 16;";
        for (int way = 0; way < 4; way++) {
            int blows = way;
            SnowCanton x = Check.told((way % 2 == 0 ? "canton 1 5;" : "canton 5 1;") + falls);
            Check.is("hour", 1, () -> x.hours(1));
            Check.is("wind " + way, 8, () -> x.wind(blows));
            int behind = way == 0 || way == 3 ? 4 : 0;
            for (int c = 0; c < 5; c++) {
                heap(x, c, c == behind ? 8 : 16, -1);
            }
        }
        SnowCanton one = Check.told("canton 5 1;fall 0 0 16;");
        Check.is("hour", 1, () -> one.hours(1));
        Check.is("wind", 0, () -> one.wind(1));
        heap(one, 1, 8, -1);
        heap(one, 2, 0, -1);
        SnowCanton up = Check.told("canton 1 5;fall 0 4 16;");
        Check.is("hour", 1, () -> up.hours(1));
        Check.is("wind", 0, () -> up.wind(0));
        heap(up, 3, 8, -1);
        heap(up, 2, 0, -1);
    }

    // "0 up, 1 right, 2 down, 3 left", "over the edge it is lost".
    private static void windOverEachEdge() {
        StringBuilder falls = new StringBuilder("canton 3 3;");
        for (int c = 0; c < 9; c++) {
            falls.append("fall 0 ").append(c).append(' ').append(2 << c % 6).append(';');
        }
        int[] lies = {2, 4, 8, 16, 32, 64, 2, 4, 8};
        int[] step = {-3, 1, 3, -1};
        for (int way = 0; way < 4; way++) {
            SnowCanton x = Check.told(falls.toString());
            Check.is("hour", 1, () -> x.hours(1));
            int[] now = lies.clone();
            int lost = 0;
            for (int c = 0; c < 9; c++) {
                boolean isEdge = way == 0 ? c < 3 : way == 2 ? c > 5 : way == 1 ? c % 3 == 2 : c % 3 == 0;
                now[c] -= lies[c] / 2;
                if (isEdge) {
                    lost += lies[c] / 2;
                } else {
                    now[c + step[way]] += lies[c] / 2;
                }
            }
            int blows = way;
            int due = lost;
            Check.is("wind " + way, due, () -> x.wind(blows));
            for (int c = 0; c < 9; c++) {
                heap(x, c, now[c], -1);
            }
        }
        SnowCanton all = Check.told("canton 2 2;" + "man 3 0;".repeat(8) + "fall 0 0 9;fall 0 3 9;");
        Check.is("hour", 1, () -> all.hours(1));
        for (int way = 0; way < 4; way++) {
            int blows = way;
            Check.holds("some is lost", all.wind(blows) > 0);
            Check.is("the people stand", 3, () -> all.person(7, 1));
            Check.is("the hour stays", 1, () -> all.count(4));
            SnowCanton x = Check.told("canton 1 1;man 0 0;fall 0 0 7;");
            Check.is("hour", 1, () -> x.hours(1));
            Check.is("one cell is edge all round", 3, () -> x.wind(blows));
            heap(x, 0, 4, 0);
        }
    }

    // "and is whose the HEAP there is; where none lies it is whose it was".
    private static void windIsWhose() {
        SnowCanton x = Check.told("canton 4 1;man 0 0;man 1 0;fall 0 0 8;fall 0 1 8;fall 0 2 8;");
        Check.is("hour", 1, () -> x.hours(1));
        Check.is("wind", 0, () -> x.wind(1));
        heap(x, 0, 4, 0);
        heap(x, 1, 8, 1);
        heap(x, 2, 8, -1);
        heap(x, 3, 4, -1);
        Check.is("of 0", 4, () -> x.person(0, 3));
        Check.is("of 1", 8, () -> x.person(1, 3));
        Check.is("nobody's", 12, () -> x.count(6));
        Check.is("back", 2, () -> x.wind(3));
        heap(x, 0, 6, 0);
        heap(x, 1, 8, 1);
        heap(x, 2, 6, -1);
        heap(x, 3, 2, -1);
        SnowCanton y = Check.told("canton 3 1;man 1 0;man 2 0;fall 0 1 8;");
        Check.is("hour", 1, () -> y.hours(1));
        Check.is("wind", 0, () -> y.wind(1));
        Check.is("where none lies it is whose it was, not who stands there", 0, () -> y.cell(2, 2));
    }

    // Promise 11: "NONE (STATUS 1): not 1 to 99."
    private static void thawRefused() {
        for (int n : FAR_OFF) {
            Check.refused(EdgeActsTest::small, "thaw(" + n + ")", 1, x -> x.thaw(n));
        }
        Check.refused(EdgeActsTest::small, "thaw(0)", 1, x -> x.thaw(0));
        Check.refused(EdgeActsTest::small, "thaw(100)", 1, x -> x.thaw(100));
    }

    // "each HEAP is so many (1 to 99, or all) less".
    private static void thawOrAll() {
        int[] much = {1, 9, 10, 11, 98, 99};
        for (int n : much) {
            SnowCanton x = Check.told("canton 3 1;man 0 0;fall 0 0 10;fall 0 2 99;");
            Check.is("hour", 1, () -> x.hours(1));
            int due = Math.min(n, 10) + n;
            Check.is("thaw(" + n + ")", due, () -> x.thaw(n));
            heap(x, 0, Math.max(0, 10 - n), n < 10 ? 0 : -1);
            heap(x, 2, 99 - n, -1);
            Check.is("his water", Math.min(n, 10), () -> x.person(0, 5));
            Check.is("nobody's water", n, () -> x.count(9));
            Check.is("no heap is left", (n < 10 ? 1 : 0) + (n < 99 ? 4 : 0), () -> x.count(7));
        }
    }

    // "that is WATER for whose it was (for nobody, too), if from there it ends in THE SEA".
    private static void thawForWhom() {
        SnowCanton x = Check.told("canton 3 3;man 4 0;man 0 1;fall 0 4 5;fall 0 0 6;fall 0 8 7;");
        Check.is("hour", 1, () -> x.hours(1));
        Check.is("of 0 and 8 alone", 12 - 4, () -> x.thaw(4));
        Check.is("none from the pond", 0, () -> x.person(0, 5));
        Check.is("but it is less", 1, () -> x.cell(4, 1));
        Check.is("of man 1", 4, () -> x.person(1, 5));
        Check.is("of nobody", 4, () -> x.count(9));
        Check.is("again", 2 + 3, () -> x.thaw(99));
        Check.is("of man 1 in all", 6, () -> x.person(1, 5));
        Check.is("of nobody in all", 7, () -> x.count(9));
        Check.is("nothing is left", 0, () -> x.thaw(99));
        Check.is("that is an act", 4, () -> x.count(10));
        SnowCanton y = Check.told("canton 2 1;" + "man 0 0;".repeat(7) + "man 1 0;fall 0 1 5;");
        Check.is("hour", 1, () -> y.hours(1));
        Check.is("thaw", 3, () -> y.thaw(3));
        Check.is("water of the eighth", 3, () -> y.person(7, 5));
        Check.is("nobody's", 0, () -> y.count(9));
    }

    // Promise 12: "NONE (STATUS 1): no plough, no neighbour. NoSuchElementException (ahead): no such PERSON, CELL."
    private static void pushRefused() {
        Check.refused(EdgeActsTest::small, "a man pushes", 1, x -> x.push(0, 1));
        Check.refused(EdgeActsTest::small, "a roof pushes", 1, x -> x.push(1, 0));
        Check.refused(() -> Check.told("child 0 0;"), "a child pushes", 1, x -> x.push(0, 1));
        Check.refused(EdgeActsTest::small, "pushes to where it stands", 1, x -> x.push(2, 0));
        Check.refused(EdgeActsTest::small, "pushes askew", 1, x -> x.push(2, 3));
        Check.refused(() -> Check.told("canton 3 3;plough 3 0;"), "over the edge", 1, x -> x.push(0, 2));
        Check.refused(() -> Check.told("canton 3 3;plough 5 0;"), "over the edge", 1, x -> x.push(0, 6));
        Check.refused(() -> Check.told("canton 1 1;plough 0 0;"), "no neighbour at all", 1, x -> x.push(0, 0));
        for (int n : FAR_OFF) {
            Check.leaves(EdgeActsTest::small, "person " + n, Check.NO_SUCH, x -> x.push(n, 1));
            Check.leaves(EdgeActsTest::small, "cell " + n, Check.NO_SUCH, x -> x.push(2, n));
            Check.leaves(EdgeActsTest::small, "a man to cell " + n, Check.NO_SUCH, x -> x.push(0, n));
        }
        Check.leaves(EdgeActsTest::small, "person 3", Check.NO_SUCH, x -> x.push(3, 1));
        Check.leaves(EdgeActsTest::small, "cell 4", Check.NO_SUCH, x -> x.push(2, 4));
        Check.leaves(EdgeActsTest::small, "a man to cell 4", Check.NO_SUCH, x -> x.push(0, 4));
    }

    // "a plough PUSHES all of the HEAP where it stands to a neighbour".
    private static void pushAll() {
        int[] to = {1, 5, 7, 3};
        for (int cell : to) {
            SnowCanton x = Check.told("canton 3 3;plough 4 0;fall 0 4 9;");
            Check.is("nothing lies", 0, () -> x.push(0, cell));
            Check.is("an act", 1, () -> x.count(10));
            Check.is("no heap", 0, () -> x.count(7));
            Check.is("hour", 1, () -> x.hours(1));
            Check.is("push to " + cell, 9, () -> x.push(0, cell));
            heap(x, 4, 0, -1);
            heap(x, cell, 9, 0);
            Check.is("it stays where it is", 4, () -> x.person(0, 1));
            Check.is("nothing lies any more", 0, () -> x.push(0, cell));
            heap(x, cell, 9, 0);
        }
        SnowCanton one = Check.told("canton 2 1;plough 0 0;fall 0 0 1;");
        Check.is("hour", 1, () -> one.hours(1));
        Check.is("a single flake", 1, () -> one.push(0, 1));
    }

    // "likewise": whose the HEAP there is, or whose it was.
    private static void pushIsWhose() {
        SnowCanton x = Check.told("canton 4 1;man 1 0;plough 1 0;man 2 0;fall 0 1 5;fall 0 2 6;fall 0 0 7;");
        Check.is("hour", 1, () -> x.hours(1));
        Check.is("to another's", 5, () -> x.push(1, 2));
        heap(x, 2, 11, 2);
        Check.is("a day", 25, () -> x.hours(24));
        Check.is("to nobody's", 5, () -> x.push(1, 0));
        heap(x, 0, 19, -1);
        Check.is("walks", 1, () -> x.walk(1, 2));
        Check.is("another's to bare ground", 17, () -> x.push(1, 3));
        heap(x, 3, 17, 2);
        Check.is("walks", 2, () -> x.walk(1, 1));
        Check.is("walks", 1, () -> x.walk(1, 0));
        Check.is("nobody's to bare ground", 19, () -> x.push(1, 1));
        heap(x, 1, 19, -1);
    }

    // Promise 13: "The last ACT is UNDONE: how many are left."
    private static void undoEachAct() {
        undo("hours", x -> x.hours(48));
        undo("walk", x -> x.walk(0, 2));
        undo("a plough's walk", x -> x.walk(2, 1));
        undo("push", x -> x.push(2, 1));
        undo("a push to bare ground", x -> x.push(2, 2));
        undo("thaw", x -> x.thaw(8));
        undo("thaw of all", x -> x.thaw(99));
        for (int way = 0; way < 4; way++) {
            int blows = way;
            undo("wind", x -> x.wind(blows));
        }
    }

    private static void undo(String what, Check.Ask act) {
        SnowCanton x = small();
        String before = Check.state(x);
        Check.holds(what + " is an act", Check.of(() -> act.of(x)) >= 0 && x.count(10) == 2);
        Check.holds(what + " changes", !Check.state(x).equals(before));
        Check.is(what + " is undone", 1, x::undo);
        Check.is(what + " undone", 0, () -> Check.state(x).equals(before) ? 0 : 1);
    }

    // "NONE: there is none."
    private static void undoNone() {
        Check.leaves(SnowCanton::new, "nothing to undo", -1, SnowCanton::undo);
        Check.leaves(() -> {
            SnowCanton x = small();
            x.undo();
            return x;
        }, "nothing more to undo", -1, SnowCanton::undo);
        Check.leaves(() -> {
            SnowCanton x = small();
            Check.read(x, "man 0 0;");
            return x;
        }, "nothing of an earlier text", -1, SnowCanton::undo);
    }

    // "at most 40 are kept, the latest ones".
    private static void fortyAreKept() {
        SnowCanton x = Check.told("canton 2 1;man 0 0;fall 0 0 1;");
        Check.is("hour", 1, () -> x.hours(1));
        for (int i = 2; i <= 40; i++) {
            int from = i % 2;
            Check.is("walk", from, () -> x.walk(0, 1 - from));
        }
        Check.is("40", 40, () -> x.count(10));
        Check.is("the 41st", 1, () -> x.walk(0, 0));
        Check.is("40 still", 40, () -> x.count(10));
        for (int i = 39; i >= 0; i--) {
            int left = i;
            Check.is("undo", left, x::undo);
            Check.is("stands at", left % 2, () -> x.person(0, 1));
        }
        Check.is("none", -1, x::undo);
        Check.is("the hour stays gone by", 1, () -> x.count(4));
        Check.is("and its flake", 1, () -> x.count(5));
        Check.is("acts anew", 0, () -> x.walk(0, 1));
        Check.is("undo", 0, x::undo);
    }

    private static void refusedAreNotKept() {
        SnowCanton x = small();
        x.hours(0);
        x.walk(1, 0);
        x.wind(-1);
        x.thaw(100);
        x.push(0, 1);
        x.see(0, 0, 0);
        Check.is("one act is kept", 1, () -> x.count(10));
        Check.is("five are refused", 5, () -> x.count(14));
        Check.is("undo of the hour", 0, x::undo);
        Check.is("hour 0", 0, () -> x.count(4));
        Check.is("no more", -1, x::undo);
        Check.is("that is not refused", 5, () -> x.count(14));
    }
}
