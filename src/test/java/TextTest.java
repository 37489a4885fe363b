/** Promises 1 to 4: a new object, the tape, texts and their faults, the rule's language. */
final class TextTest {
    private TextTest() {
    }

    public static void main(String[] args) {
        newObject();
        tape();
        cantonTakesTheFirstBytes();
        cantonBeginsAnew();
        faultLeavesAll();
        grammar();
        tooMuch();
        unknownAndTwice();
        expressions();
        worth();
        values();
        firstGivesMost();
        Check.end("TextTest");
    }

    private static void newObject() {
        SnowCanton x = new SnowCanton();
        for (int what = 0; what < 16; what++) {
            int w = what;
            Check.is("new count(" + what + ")", what < 2 ? 4 : 0, () -> x.count(w));
        }
        Check.is("new fault()", SnowCanton.NONE, x::fault);
        Check.is("new undo()", SnowCanton.NONE, x::undo);
        Check.is("new cell(15, 0)", 0, () -> x.cell(15, 0));
        Check.is("new person(0, 0)", Check.NO_SUCH, () -> x.person(0, 0));
        Check.holds("new restore()", !x.restore());
        Check.is("NONE", -1, () -> SnowCanton.NONE);
    }

    private static void tape() {
        SnowCanton x = new SnowCanton();
        for (int i = 1; i <= 35; i++) {
            Check.is("feed " + i, 20 * i, () -> x.feed(0, 0, 0, 0, 0));
        }
        Check.is("feed beyond 700", -1, () -> x.feed(1, 2, 3, 4, 5));
        Check.is("tape after it", 700, () -> x.count(12));
        Check.is("700 bytes of no token", 1, () -> x.canton(700));
        Check.is("tape after canton", 0, () -> x.count(12));
        Check.is("feed again", 20, () -> x.feed(0, 0, 0, 0, 0));

        SnowCanton y = new SnowCanton();
        Check.is("'roof', ' 1 2', ';'", 20, () -> y.feed(0x726f6f66, 0x20312032, 0x3b202020, 0x20202020, 0x2020200a));
        Check.is("canton of it", 0, () -> y.canton(20));
        Check.is("roof's kind", 2, () -> y.person(0, 0));
        Check.is("roof's cell", 1, () -> y.person(0, 1));
        Check.is("roof's hat", 2, () -> y.person(0, 2));
    }

    private static void cantonTakesTheFirstBytes() {
        SnowCanton x = new SnowCanton();
        Check.feed(x, "man 0 1;man 1 1;");
        Check.is("canton below 0", Check.ILLEGAL, () -> x.canton(-1));
        Check.is("canton of more than there is", Check.ILLEGAL, () -> x.canton(21));
        Check.is("tape is still there", 20, () -> x.count(12));
        Check.is("nothing is refused by that", 0, () -> x.count(13));
        Check.is("the first 8 bytes", 0, () -> x.canton(8));
        Check.is("one man", 1, () -> x.count(2));
        Check.is("tape is empty", 0, () -> x.count(12));
        Check.is("canton(0) is a canton", 0, () -> x.canton(0));
        Check.is("of nobody", 0, () -> x.count(2));
        Check.is("canton(1) of an empty tape", Check.ILLEGAL, () -> x.canton(1));
        Check.is("a text with a fault", 1, () -> Check.read(x, "man 0 1"));
        Check.is("tape is empty then, too", 0, () -> x.count(12));
        Check.is("fault's place", 7, x::fault);
        Check.is("a refused call leaves the place", Check.ILLEGAL, () -> x.canton(9));
        Check.is("fault's place still", 7, x::fault);
        Check.is("a good one", 0, () -> Check.read(x, "man 0 1;"));
        Check.is("no fault's place", -1, x::fault);
    }

    private static void cantonBeginsAnew() {
        SnowCanton x = used();
        Check.is("second text", 0, () -> Check.read(x, "canton 2 2;child 3 1;"));
        Check.is("its hour", 0, () -> x.count(4));
        Check.is("its flakes", 0, () -> x.count(5));
        Check.is("its falls", 0, () -> x.count(3));
        Check.is("its water of nobody", 0, () -> x.count(9));
        Check.is("its water of 0", 0, () -> x.person(0, 5));
        Check.is("its acts", 0, () -> x.count(10));
        Check.is("its seen", 0, () -> x.count(11));
        Check.is("its height", 0, () -> x.cell(0, 0));
        Check.is("its person's cell", 3, () -> x.person(0, 1));
        Check.is("status of acts stays", 1, () -> x.count(14));
        Check.is("status of seen stays", 1, () -> x.count(15));
        Check.is("the rule is gone", 0, () -> x.cell(3, 4));
        Check.holds("the image is gone", !x.restore());
    }

    private static void faultLeavesAll() {
        SnowCanton x = used();
        Check.is("a text with a fault", 2, () -> Check.read(x, "canton 2 2;child 3 4;"));
        Check.is("its place", 19, x::fault);
        Check.is("status", 1, () -> x.count(13));
        Check.is("W", 3, () -> x.count(0));
        Check.is("people", 2, () -> x.count(2));
        Check.is("hour", 1, () -> x.count(4));
        Check.is("flakes", 3, () -> x.count(5));
        Check.is("water", 2, () -> x.person(1, 5));
        Check.is("acts", 2, () -> x.count(10));
        Check.is("seen", 1, () -> x.count(11));
        Check.is("height", 5, () -> x.cell(0, 0));
        Check.is("the rule", 1, () -> x.cell(0, 4));
        Check.holds("the image", x.restore());
        Check.is("undo", 1, x::undo);
    }

    /** One with a bit of everything: a rule, an hour, a thaw, something seen, an image, refusals. */
    private static SnowCanton used() {
        SnowCanton x = Check.told("canton 3 1;height 0 5;man 0 1;man 0 2;fall 0 0 5;first hat;");
        Check.is("hours", 1, () -> x.hours(1));
        Check.is("thaw", 2, () -> x.thaw(2));
        Check.is("wind refused", -1, () -> x.wind(4));
        Check.is("see", 1, () -> x.see(0, 1, 1));
        Check.is("see refused", -1, () -> x.see(0, 25, 1));
        x.image();
        return x;
    }

    private static void grammar() {
        Check.fault("", 0, -1);
        Check.fault("  \n ", 0, -1);
        Check.fault(" canton 2 3 ;", 0, -1);
        Check.fault("canton2 3;man0 1;", 0, -1);
        Check.fault("man\n0\n1\n;", 0, -1);
        Check.fault("x", 1, 0);
        Check.fault("Man 0 1;", 1, 0);
        Check.fault("man\t0 1;", 1, 3);
        Check.fault("\u00e9", 1, 0);
        Check.fault("man 0 1;!", 1, 8);
        Check.fault("mans 0 1;", 1, 0);
        Check.fault("ma n 0 1;", 1, 0);
        Check.fault("canton 5", 1, 8);
        Check.fault("canton 5   ", 1, 11);
        Check.fault("canton 5 5", 1, 10);
        Check.fault("canton ; 5 5", 1, 7);
        Check.fault("canton 2 2; canton 2 2;", 1, 12);
        Check.fault("man 0 1;canton 2 2;", 1, 8);
        Check.fault("man 0;", 1, 5);
        Check.fault("man 0 1", 1, 7);
        Check.fault("man 0 1 1;", 1, 8);
        Check.fault(";", 1, 0);
        Check.fault("12345", 1, 0);
        Check.fault("man 0 1;;", 1, 8);
        Check.fault("height 0;", 1, 8);
        Check.fault("height -1 1;", 1, 7);
        Check.fault("fall 0 0 man;", 1, 9);
        Check.fault("fall 0", 1, 6);
    }

    private static void tooMuch() {
        Check.fault("canton 0 1;", 2, 7);
        Check.fault("canton 6 1;", 2, 7);
        Check.fault("canton 5 6;", 2, 9);
        Check.fault("canton 5 0;", 2, 9);
        Check.fault("canton 5 5;height 24 9;", 0, -1);
        Check.fault("height 0 10;", 2, 9);
        Check.fault("height 10000 1;", 2, 7);
        Check.fault("height 00001 1;", 2, 7);
        Check.fault("height 0001 5;", 0, -1);
        Check.fault("man 0 4;", 2, 6);
        Check.fault("child 15 3;", 0, -1);
        Check.fault("fall 24 0 1;", 2, 5);
        Check.fault("fall 23 0 99;", 0, -1);
        Check.fault("fall 0 0 0;", 2, 9);
        Check.fault("fall 0 0 100;", 2, 9);
        Check.fault("man 0 1;".repeat(8), 0, -1);
        Check.fault("man 0 1;".repeat(8) + "roof 99 9;", 2, 64);
        Check.fault("fall 0 0 1;".repeat(24), 0, -1);
        Check.fault("fall 0 0 1;".repeat(24) + "fall;", 2, 264);
    }

    private static void unknownAndTwice() {
        Check.fault("height 16 1;", 3, 7);
        Check.fault("height 9999 1;", 3, 7);
        Check.fault("canton 2 2;man 4 1;", 3, 15);
        Check.fault("man 16 4;", 3, 4);
        Check.fault("fall 0 16 1;", 3, 7);
        Check.fault("fall 24 16 1;", 2, 5);
        Check.fault("height 0 9;height 0 9;", 4, 18);
        Check.fault("height 0 0;height 1 0;height 0 99;", 4, 29);
        Check.fault("first 1;first 2;", 5, 8);
        Check.fault("first 1;first", 5, 8);
    }

    private static void expressions() {
        Check.fault("first hat+far-kind*has/hour<tall;", 0, -1);
        Check.fault("first 1=2 and not 3 or(4);", 0, -1);
        Check.fault("first ;", 1, 6);
        Check.fault("first", 1, 5);
        Check.fault("first 1", 1, 7);
        Check.fault("first foo;", 3, 6);
        Check.fault("first and;", 3, 6);
        Check.fault("first man;", 3, 6);
        Check.fault("first 1 and or 2;", 3, 12);
        Check.fault("first 1 or foo;", 3, 11);
        Check.fault("first 1 and foo;", 3, 12);
        Check.fault("first 1<foo;", 3, 8);
        Check.fault("first 1+foo;", 3, 8);
        Check.fault("first 1*foo;", 3, 8);
        Check.fault("first not foo;", 3, 10);
        Check.fault("first (foo);", 3, 7);
        Check.fault("first a;", 3, 6);
        Check.fault("first z;", 3, 6);
        Check.fault("first canton;", 3, 6);
        Check.fault("first 1 foo;", 1, 8);
        Check.fault("first 1 hat;", 1, 8);
        Check.fault("first not;", 1, 9);
        Check.fault("first -1;", 1, 6);
        Check.fault("first 1+;", 1, 8);
        Check.fault("first 1<not 2;", 3, 8);
        Check.fault("first 1+not 2;", 3, 8);
        Check.fault("first 1<2<3;", 1, 9);
        Check.fault("first 1=2<3;", 1, 9);
        Check.fault("first 9999;", 0, -1);
        Check.fault("first 10000;", 2, 6);
        Check.fault("first 1 10000;", 1, 8);
        Check.fault("first (1;", 1, 8);
        Check.fault("first 1);", 1, 7);
        Check.fault("first ();", 1, 7);
        Check.fault("first (((((1)))));", 0, -1);
        Check.fault("first (((((1)))))+(((((1)))));", 0, -1);
        Check.fault("first ((((((1))))));", 2, 12);
        Check.fault("first ((((((foo))))));", 2, 12);
        Check.fault("first ((((((not 1))))));", 2, 12);
        Check.fault("first (((((((1)))))));", 2, 12);
        Check.fault("first ((((((+))))));", 1, 12);
        Check.fault("first (((((()", 1, 12);
        Check.fault("first ((((((", 1, 12);
        Check.fault("first not not not not not not 1;", 0, -1);
        Check.fault("first not not not not not not not 1;", 2, 30);
        Check.fault("first not not not not not not (not 1);", 0, -1);
        Check.fault("first not not not not not not 1 and not 1;", 0, -1);
    }

    /** What an expression gives for a man with hat 0: he gets the flakes if it is not below another one's number. */
    private static void worth(String expr, int due) {
        for (int more = 0; more < 2; more++) {
            int n = due + more;
            String number = n < 0 ? "(0-" + -n + ")" : String.valueOf(n);
            SnowCanton x = Check.told("man 5 0;man 5 1;first (hat=0)*(" + expr + ")+(hat=1)*" + number + ";");
            Check.is(expr + " against " + n, more, () -> x.cell(5, 4));
        }
    }

    private static void worth() {
        worth("7/2", 3);
        worth("(0-7)/2", -3);
        worth("7/(0-2)", -3);
        worth("5/0", 0);
        worth("1+2*3", 7);
        worth("7-2-1", 4);
        worth("8/2*3", 12);
        worth("8/3*3", 6);
        worth("not 5", 0);
        worth("not 0", 1);
        worth("not not 5", 1);
        worth("3 and 2", 1);
        worth("3 and 0", 0);
        worth("0 or 7", 1);
        worth("0 or 0", 0);
        worth("1 or 0 and 0", 1);
        worth("2<3", 1);
        worth("3<3", 0);
        worth("0-1<0", 1);
        worth("3=3", 1);
        worth("3=2", 0);
        worth("not 1=2", 1);
        worth("1+1=2", 1);
        worth("9999*9999*9999<0", 1);
        worth("9999*9999*9999=9999*(9999*9999)", 1);
        worth("((2+3)*(4-1))", 15);
        worth("1+(2*(3+(4*5)))", 47);
        worth("0005", 5);
        deepest();
    }

    /** Five operands stand open in each of six EXPRs within one another. */
    private static void deepest() {
        String expr = "hat";
        for (int i = 0; i < 5; i++) {
            expr = "(0 or 1 and 0<0+1*" + expr + ")";
        }
        SnowCanton x = Check.told("man 5 0;man 5 1;first 0 or 1 and 0<0+1*" + expr + ";");
        Check.is("the deepest rule", 1, () -> x.cell(5, 4));
        SnowCanton y = Check.told("man 5 0;man 5 1;first 0 or 1 and 0<0+1*" + expr.replace("hat", "far") + ";");
        Check.is("the deepest rule, of like ones", 0, () -> y.cell(5, 4));
    }

    private static void values() {
        worth("hat", 0);
        worth("far", 0);
        worth("kind", 0);
        worth("has", 0);
        worth("hour", 0);
        worth("tall", 0);
        SnowCanton x = Check.told("canton 3 1;height 0 2;roof 0 2;plough 2 0;man 1 1;fall 0 2 9;first tall;");
        Check.is("tall of a roof", 0, () -> x.cell(1, 4));
        SnowCanton y = Check.told("canton 3 1;height 2 6;roof 0 2;man 2 2;first tall;");
        Check.is("tall of a man above it", 1, () -> y.cell(1, 4));
        SnowCanton like = Check.told("canton 2 1;height 0 5;height 1 2;man 0 2;roof 1 2;first tall;");
        Check.is("a roof is 3 taller: like ones", 0, () -> like.cell(0, 4));
        SnowCanton taller = Check.told("canton 2 1;height 0 5;height 1 3;man 0 2;roof 1 2;first tall;");
        Check.is("a roof is 3 taller: taller", 1, () -> taller.cell(0, 4));
        SnowCanton z = Check.told("canton 3 1;man 0 3;man 2 3;fall 0 2 9;fall 1 0 8;first 0-has;");
        Check.is("has: the first flakes", 1, () -> z.hours(1));
        Check.is("like ones: the least", 0, () -> z.cell(2, 2));
        Check.is("has: who has less", 1, () -> z.cell(0, 4));
        SnowCanton k = Check.told("man 0 3;child 0 3;roof 0 3;plough 1 3;first kind;");
        Check.is("kind", 2, () -> k.cell(5, 4));
        SnowCanton f = Check.told("canton 5 1;man 0 3;man 3 3;first far;");
        Check.is("far", 0, () -> f.cell(2, 4));
        Check.is("far, where only one touches", 1, () -> f.cell(4, 4));
    }

    private static void firstGivesMost() {
        SnowCanton x = Check.told("man 0 1;man 1 0;man 0 2;");
        Check.is("without a rule the nearest", 1, () -> x.cell(1, 4));
        Check.is("of like ones the least", 0, () -> x.cell(0, 4));
        SnowCanton y = Check.told("man 0 1;man 1 0;man 0 2;first hat;");
        Check.is("by the rule", 2, () -> y.cell(1, 4));
        SnowCanton z = Check.told("man 0 1;man 1 1;first 0-9;");
        Check.is("of like ones below 0 the least", 0, () -> z.cell(1, 4));
        SnowCanton h = Check.told("man 0 1;man 0 2;first (hour=1)*hat;");
        Check.is("hour 0", 0, () -> h.cell(0, 4));
        Check.is("25 hours", 25, () -> h.hours(25));
        Check.is("hour 1 of the day", 1, () -> h.cell(0, 4));
    }
}
