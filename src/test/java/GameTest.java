/** Promises 25 to 29: partitions, a game of standing, winters by a seed, the image. */
final class GameTest {
    private GameTest() {
    }

    public static void main(String[] args) {
        partition();
        game();
        gameWrongInputs();
        winter();
        winterByHand();
        winterOnSnow();
        image();
        Check.end("GameTest");
    }

    private static int is(boolean is) {
        return is ? 1 : 0;
    }

    private static void partition() {
        Check.is("nobody", 1, () -> is(new SnowCanton().partition()));
        SnowCanton x = Check.told("canton 3 1;man 0 0;fall 5 1 9;");
        Check.is("he would walk", 0, () -> is(x.partition()));
        Check.is("walks", 0, () -> x.walk(0, 1));
        Check.is("he stays", 1, () -> is(x.partition()));
        SnowCanton y = Check.told("canton 3 1;man 0 0;fall 6 1 9;");
        Check.is("it falls too late", 1, () -> is(y.partition()));
        SnowCanton r = Check.told("canton 3 1;roof 0 0;fall 5 1 9;");
        Check.is("a roof can't", 1, () -> is(r.partition()));
        SnowCanton f = Check.told("canton 3 1;man 0 0;fall 5 2 9;");
        Check.is("too far for a step", 1, () -> is(f.partition()));
        SnowCanton p = Check.told("canton 2 1;man 0 0;plough 0 3;fall 0 0 9;fall 1 1 9;");
        Check.is("the plough would", 0, () -> is(p.partition()));
        SnowCanton e = Check.told("canton 2 1;man 0 0;fall 0 0 9;fall 1 1 9;");
        Check.is("no more is not more", 1, () -> is(e.partition()));
    }

    private static void game() {
        // Both would have 9 in the midst; the first one gets it, if both go.
        SnowCanton x = Check.told("canton 3 1;man 0 0;man 2 0;fall 0 1 9;fall 5 2 3;");
        Check.is("only (1, 0) rests", 1, () -> x.game(0, 1, 1, 0));
        Check.is("it", 10, () -> x.game(0, 1, 1, 1));
        Check.is("the other way round", 1, () -> x.game(1, 0, 1, 0));
        Check.is("it is (0, 1)", 1, () -> x.game(1, 0, 1, 1));
        SnowCanton y = Check.told("canton 3 1;man 0 0;man 2 0;fall 6 1 9;");
        Check.is("nothing falls: all rest", 4, () -> y.game(0, 1, 1, 0));
        Check.is("the first", 0, () -> y.game(0, 1, 1, 1));
        // The first one flees the other, who follows: hats and has decide.
        SnowCanton z = Check.told("canton 3 2;height 0 5;height 1 3;height 2 1;height 4 9;man 0 1;child 5 0;roof 4 1;plough 2 2;"
                + "fall 0 1 10;fall 0 2 6;fall 1 3 8;fall 2 5 4;fall 2 1 2;");
        Check.is("none rests", 0, () -> z.game(0, 1, 2, 0));
        Check.is("no first", -1, () -> z.game(0, 1, 2, 1));
        Check.is("both to where one stands", 4, () -> y.game(0, 1, 0, 0));
    }

    private static void gameWrongInputs() {
        SnowCanton x = Check.told("canton 3 1;man 0 0;man 2 0;roof 1 1;");
        Check.is("both are one", Check.ILLEGAL, () -> x.game(0, 0, 1, 0));
        Check.is("a roof", Check.ILLEGAL, () -> x.game(0, 2, 1, 0));
        Check.is("a roof", Check.ILLEGAL, () -> x.game(2, 1, 1, 0));
        Check.is("what is ahead", Check.NO_SUCH, () -> x.game(0, 0, 1, 2));
        Check.is("what is ahead", Check.NO_SUCH, () -> x.game(0, 0, 1, -1));
        Check.is("cell is ahead", Check.NO_SUCH, () -> x.game(0, 0, 3, 0));
        Check.is("person is ahead", Check.NO_SUCH, () -> x.game(3, 3, 0, 0));
        Check.is("other is ahead", Check.NO_SUCH, () -> x.game(2, -1, 0, 0));
    }

    private static void winter() {
        SnowCanton x = Check.told("canton 2 2;man 0 0;fall 0 0 50;");
        Check.is("no hours: no flakes", 0, () -> x.winter(7, 0, 0));
        Check.is("no hours: no cells", 0, () -> x.winter(7, 0, 1));
        Check.is("no hours: nobody", -1, () -> x.winter(7, 0, 2));
        Check.is("what 3", Check.NO_SUCH, () -> x.winter(7, 0, 3));
        Check.is("what -1", Check.NO_SUCH, () -> x.winter(7, 0, -1));
        Check.is("what is ahead", Check.NO_SUCH, () -> x.winter(7, 61, 3));
        Check.is("60 is not refused", 1, () -> x.winter(7, 60, 0) > 0 ? 1 : 0);
        Check.is("61", Check.ILLEGAL, () -> x.winter(7, 61, 0));
        Check.is("-1", Check.ILLEGAL, () -> x.winter(7, -1, 2));
        Check.is("nothing changes", 0, () -> x.count(4));
        Check.is("nothing lies", 0, () -> x.count(5));
    }

    /** By seed 0 the bits 16 to 30 are 0, 21468, 9988, 22117, 3498, 16927. */
    private static void winterByHand() {
        SnowCanton x = Check.told("canton 2 2;man 0 0;fall 0 0 50;");
        // An hour: cell 0, 21468 MOD 20 is 8 flakes, person 0, 22117 MOD 4 is 1: right.
        Check.is("an hour: flakes", 8, () -> x.winter(0, 1, 0));
        Check.is("an hour: nobody's", 0, () -> x.winter(0, 1, 1));
        Check.is("an hour: who", 0, () -> x.winter(0, 1, 2));
        // Another: 3498 MOD 4 is cell 2, 16927 MOD 20 is 7 flakes, nobody's.
        Check.is("two: flakes", 15, () -> x.winter(0, 2, 0));
        Check.is("two: nobody's", 1, () -> x.winter(0, 2, 1));
        Check.is("two: who", 0, () -> x.winter(0, 2, 2));
        // Without people the draws of who and where fall away: cell 9988 MOD 16 is 4, 22117 MOD 20 is 17.
        SnowCanton y = new SnowCanton();
        Check.is("without people: flakes", 25, () -> y.winter(0, 2, 0));
        Check.is("without people: cells", 2, () -> y.winter(0, 2, 1));
        Check.is("without people: who", -1, () -> y.winter(0, 2, 2));
        // A roof draws no way: the next hour's cell is 22117 MOD 4, 1; 3498 MOD 20 is 18.
        SnowCanton r = Check.told("canton 2 2;roof 0 0;");
        Check.is("a roof: flakes", 26, () -> r.winter(0, 2, 0));
        Check.is("a roof: nobody's", 1, () -> r.winter(0, 2, 1));
        Check.is("a roof: who", 0, () -> r.winter(0, 2, 2));
        // The man has walked to the right: with hat 2 the flakes in 2 are his.
        SnowCanton w = Check.told("canton 2 2;man 0 2;");
        Check.is("a larger hat: nobody's", 0, () -> w.winter(0, 2, 1));
    }

    private static void winterOnSnow() {
        SnowCanton x = Check.told("canton 2 2;man 0 0;man 3 0;fall 0 3 50;fall 0 1 7;");
        Check.is("hour", 1, () -> x.hours(1));
        Check.is("from now on: flakes", 57, () -> x.winter(0, 0, 0));
        Check.is("from now on: nobody's", 1, () -> x.winter(0, 0, 1));
        Check.is("from now on: who", 1, () -> x.winter(0, 0, 2));
        Check.is("an hour: flakes", 65, () -> x.winter(0, 1, 0));
        SnowCanton y = Check.told("canton 2 2;man 3 0;man 0 0;man 1 0;fall 0 0 1;fall 0 1 1;");
        Check.is("hour", 1, () -> y.hours(1));
        Check.is("a single flake is the most, of like ones the least", 1, () -> y.winter(0, 0, 2));
    }

    private static void image() {
        SnowCanton x = Check.told("canton 3 1;man 0 0;plough 1 0;fall 0 0 5;fall 0 1 6;");
        Check.is("none yet", 0, () -> is(x.restore()));
        x.hours(1);
        x.walk(0, 1);
        x.thaw(2);
        x.see(0, 1, 0);
        x.wind(7);
        x.see(0, 0, 0);
        x.image();
        x.hours(24);
        x.push(1, 2);
        x.walk(1, 0);
        x.thaw(1);
        x.undo();
        x.forget();
        x.wind(7);
        x.see(0, 0, 0);
        Check.is("a fault", 1, () -> Check.read(x, "?"));
        for (int i = 0; i < 2; i++) {
            Check.is("restore", 1, () -> is(x.restore()));
            Check.is("hour", 1, () -> x.count(4));
            Check.is("flakes", 7, () -> x.count(5));
            Check.is("man's place", 1, () -> x.person(0, 1));
            Check.is("plough's place", 1, () -> x.person(1, 1));
            Check.is("water", 2, () -> x.person(0, 5));
            Check.is("acts", 3, () -> x.count(10));
            Check.is("seen", 1, () -> x.count(11));
            Check.is("texts refused", 0, () -> x.count(13));
            Check.is("acts refused", 1, () -> x.count(14));
            Check.is("seen refused", 1, () -> x.count(15));
            Check.is("the fault's place is none of it", 0, x::fault);
            Check.is("undo thaw", 2, x::undo);
            Check.is("undo walk", 1, x::undo);
            Check.is("undo hours", 0, x::undo);
            Check.is("hour", 0, () -> x.count(4));
        }
        x.image();
        x.hours(5);
        Check.is("another one in its place", 1, () -> is(x.restore()));
        Check.is("hour", 0, () -> x.count(4));
        Check.is("acts", 0, () -> x.count(10));
    }
}
