/** The document's edges of FIRST, sentence by sentence: what an EXPR gives, its VALUES, to whom it gives most. */
final class EdgeRuleTest {
    // 8192 * 8192 * 32 is 2 to the 31st: the least int.
    private static final String LEAST = "(8192*8192*32)";

    private EdgeRuleTest() {
    }

    public static void main(String[] args) {
        wraps();
        divides();
        tests();
        whatIsNotNought();
        binding();
        fromTheLeft();
        hat();
        far();
        kind();
        has();
        hour();
        tall();
        most();
        least();
        without();
        nobody();
        Check.end("EdgeRuleTest");
    }

    /** Man 0's EXPR (his hat is 0) against a number for man 1: he gets what falls if his is not less. */
    private static void gives(String expr, int due) {
        for (int more = 0; more < 2; more++) {
            int n = due + more;
            String number = n < 0 ? "(0-" + -n + ")" : String.valueOf(n);
            SnowCanton x = Check.told("man 5 0;man 5 1;first (hat=0)*(" + expr + ")+(hat=1)*" + number + ";");
            Check.is(expr + " against " + n, more, () -> x.cell(5, 4));
        }
    }

    // "ints that wrap".
    private static void wraps() {
        gives(LEAST + "<0", 1);
        gives("0<" + LEAST + "-1", 1);
        gives(LEAST + "-1+1=" + LEAST, 1);
        gives(LEAST + "+" + LEAST, 0);
        gives(LEAST + "*2", 0);
        gives(LEAST + "*(0-1)=" + LEAST, 1);
        gives("0-" + LEAST + "=" + LEAST, 1);
        gives("8192*8192*64", 0);
        gives("8192*8192*16<0", 0);
        gives("9999*9999*22<0", 1);
        gives("9999*9999*21<0", 0);
    }

    // "/ cut down to 0, by 0 gives 0".
    private static void divides() {
        gives("7/2", 3);
        gives("(0-7)/2", -3);
        gives("7/(0-2)", -3);
        gives("(0-7)/(0-2)", 3);
        gives("1/2", 0);
        gives("(0-1)/2", 0);
        gives("6/3", 2);
        gives("9999/9999", 1);
        gives("9998/9999", 0);
        gives("5/0", 0);
        gives("0/0", 0);
        gives("(0-5)/0", 0);
        gives("5/(2-2)", 0);
        gives("5/0+3", 3);
        gives(LEAST + "/0", 0);
        gives(LEAST + "/(0-1)=" + LEAST, 1);
        gives(LEAST + "/1=" + LEAST, 1);
        gives(LEAST + "/" + LEAST, 1);
        gives("(" + LEAST + "-1)/" + LEAST, 0);
    }

    // "tests, not, and, or are 1 or 0".
    private static void tests() {
        gives("2<3", 1);
        gives("3<3", 0);
        gives("4<3", 0);
        gives("0-1<0", 1);
        gives("0<0-1", 0);
        gives("3=3", 1);
        gives("3=4", 0);
        gives("0=0-0", 1);
        gives(LEAST + "<" + LEAST + "-1", 1);
        gives("not 0", 1);
        gives("not 1", 0);
        gives("7 and 9", 1);
        gives("7 or 9", 1);
        gives("0 or 9", 1);
        gives("9 or 0", 1);
        gives("0 or 0", 0);
        gives("(7 and 9)+(7 or 9)", 2);
        gives("(not 0)*5", 5);
    }

    // "what isn't 0 holds".
    private static void whatIsNotNought() {
        gives("not (0-1)", 0);
        gives("not 2", 0);
        gives("(0-1) and (0-2)", 1);
        gives("(0-1) and 0", 0);
        gives("0 and (0-1)", 0);
        gives("0 and 3", 0);
        gives("3 and 0", 0);
        gives("0 and 0", 0);
        gives("(0-1) or 0", 1);
        gives("0 or (0-1)", 1);
        gives("2 and 4", 1);
        gives(LEAST + " and 1", 1);
        gives("not " + LEAST, 0);
    }

    private static void binding() {
        gives("1 or 1 and 0", 1);
        gives("0 and 0 or 1", 1);
        gives("0 and (0 or 1)", 0);
        gives("not 0 and 0", 0);
        gives("not (0 and 0)", 1);
        gives("not 0 or 1", 1);
        gives("not 1=1", 0);
        gives("not 1=2", 1);
        gives("not 1+1", 0);
        gives("not 0*5", 1);
        gives("(not 0)+1", 2);
        gives("1+1=2", 1);
        gives("2=1+1", 1);
        gives("1<1+1", 1);
        gives("2*3=6", 1);
        gives("1+2*3", 7);
        gives("(1+2)*3", 9);
        gives("7-6/3", 5);
        gives("1=1 and 2<3", 1);
        gives("not not 7", 1);
        gives("not not not 7", 0);
        gives("not not not not not not 7", 1);
        gives("not not not not not not 0", 0);
        gives("not not not not not 0", 1);
    }

    // "From the left".
    private static void fromTheLeft() {
        gives("7-2-1", 4);
        gives("7-2+1", 6);
        gives("7-(2+1)", 4);
        gives("8/2*3", 12);
        gives("8/3*3", 6);
        gives("3*8/3", 8);
        gives("3*3/2", 4);
        gives("3/2*2", 2);
        gives("100/7/3", 4);
        gives("1-2-3-4", -8);
        gives("1 or 0 or 0", 1);
        gives("1 and 0 and 1", 0);
        gives("0 or 1 and 1 or 0", 1);
    }

    // "'hat'": as told, of a plough and of a child in even hours, too.
    private static void hat() {
        SnowCanton x = Check.told("man 5 2;plough 5 3;child 5 2;first hat;");
        Check.is("a plough's hat", 1, () -> x.cell(5, 4));
        SnowCanton y = Check.told("man 5 2;child 5 2;first hat;");
        Check.is("a child's hat is no larger", 0, () -> y.cell(5, 4));
        for (int hat = 0; hat <= 3; hat++) {
            int more = hat;
            SnowCanton z = Check.told("roof 5 3;man 5 " + hat + ";first hat*(kind=0)+" + hat + "*(kind=2)+(kind=0);");
            Check.is("hat " + hat + " and 1 is more than " + hat, 1, () -> z.cell(5, 4));
            SnowCanton w = Check.told("roof 5 3;man 5 " + hat + ";first hat*(kind=0)+" + hat + "*(kind=2);");
            Check.is("hat " + more + " is no more than " + hat, 0, () -> w.cell(5, 4));
        }
    }

    // "'far' (from the CELL)": the sum of both differences.
    private static void far() {
        SnowCanton x = Check.told("canton 5 5;man 0 3;man 1 3;man 7 3;first far;");
        Check.is("far 3 is most", 0, () -> x.cell(3, 4));
        Check.is("far 2, both other ones nearer", 0, () -> x.cell(2, 4));
        Check.is("far 1, 2, 2: of like ones the least", 1, () -> x.cell(5, 4));
        SnowCanton y = Check.told("canton 5 5;man 2 3;man 6 3;first far*far;");
        Check.is("askew: far 4 from 2, far 2 from 6", 2, () -> y.cell(10, 3));
        Check.is("only the second touches it", 1, () -> y.cell(10, 4));
        Check.is("far 3 from 2 by x 1, y 2", 0, () -> y.cell(11, 4));
        SnowCanton z = Check.told("man 5 1;man 6 1;first far=0;");
        Check.is("far 0", 1, () -> z.cell(6, 4));
        SnowCanton w = Check.told("man 5 1;man 6 1;first far=1;");
        Check.is("far 1", 0, () -> w.cell(6, 4));
    }

    // "'kind'": 0 man, 1 child, 2 roof, 3 plough.
    private static void kind() {
        for (int kind = 0; kind <= 3; kind++) {
            int due = kind;
            SnowCanton x = Check.told("man 5 0;child 5 0;roof 5 0;plough 5 0;first kind=" + kind + ";");
            Check.is("kind " + kind, due, () -> x.cell(5, 4));
        }
        SnowCanton y = Check.told("man 5 0;child 5 0;roof 5 0;plough 5 0;first kind;");
        Check.is("most", 3, () -> y.cell(5, 4));
    }

    // "'has' (how many FLAKES, all together)": FALL by FALL.
    private static void has() {
        SnowCanton x = Check.told("canton 5 1;man 1 1;man 3 1;fall 0 0 3;fall 0 4 5;fall 0 1 3;fall 1 2 1;first has;");
        Check.is("hour", 1, () -> x.hours(1));
        Check.is("3 and 3 are more than 5", 0, () -> x.cell(2, 4));
        Check.is("hour", 2, () -> x.hours(1));
        Check.is("it was his", 0, () -> x.cell(2, 2));
        SnowCanton y = Check.told("canton 5 1;man 1 1;man 3 1;fall 0 0 3;fall 0 4 7;fall 0 1 3;first has;");
        Check.is("hour", 1, () -> y.hours(1));
        Check.is("not more than 7", 1, () -> y.cell(2, 4));
        SnowCanton z = Check.told("canton 3 1;man 0 3;man 2 3;fall 0 0 1;fall 0 1 1;fall 0 2 1;first 0-has;");
        Check.is("hour", 1, () -> z.hours(1));
        Check.is("the first to 0", 0, () -> z.cell(0, 2));
        Check.is("the next to 1, who has none yet", 1, () -> z.cell(1, 2));
        Check.is("the next to the least again", 0, () -> z.cell(2, 2));
    }

    // "'hour' (of the day)".
    private static void hour() {
        int[] hours = {0, 1, 23, 24, 26, 47, 48};
        for (int hour : hours) {
            int ofDay = hour % 24;
            SnowCanton x = Check.told("man 5 0;man 5 1;first (hour=" + ofDay + ")*hat;");
            SnowCanton y = Check.told("man 5 0;man 5 1;first (hour=" + (ofDay + 1) + ")*hat;");
            if (hour > 0) {
                Check.is("hours", hour, () -> x.hours(hour));
                Check.is("hours", hour, () -> y.hours(hour));
            }
            Check.is("of the day at " + hour, 1, () -> x.cell(5, 4));
            Check.is("not one more at " + hour, 0, () -> y.cell(5, 4));
        }
    }

    // "'tall' (HEIGHT where one stands, and of a roof 3 more)".
    private static void tall() {
        for (int less = 2; less <= 4; less++) {
            int due = less == 2 ? 1 : 0;
            SnowCanton x = Check.told("canton 2 1;height 0 5;height 1 " + (5 - less) + ";man 0 1;roof 1 1;first tall;");
            Check.is("a roof that stands " + less + " lower", due, () -> x.cell(0, 4));
            Check.is("of the cell where it falls it is none", due, () -> x.cell(1, 4));
        }
        SnowCanton y = Check.told("canton 2 1;height 1 1;child 0 1;plough 1 3;child 1 0;first tall;");
        Check.is("a plough and a child are as tall as they stand", 1, () -> y.cell(1, 4));
        SnowCanton z = Check.told("canton 2 1;height 1 9;man 0 1;man 0 1;first tall;");
        Check.is("walks up", 0, () -> z.walk(1, 1));
        Check.is("tall where he stands now", 1, () -> z.cell(0, 4));
        SnowCanton w = Check.told("canton 2 1;roof 0 1;man 1 1;height 1 3;first tall-(kind=2);");
        Check.is("3 less 1 is less than 3", 1, () -> w.cell(0, 4));
    }

    // "it is his of those who TOUCH it to whom FIRST gives most", "of like ones the least".
    private static void most() {
        SnowCanton x = Check.told("man 5 0;man 5 1;man 5 2;man 5 2;man 5 1;first hat;");
        Check.is("most, of like ones the least", 2, () -> x.cell(5, 4));
        SnowCanton y = Check.told("man 5 0;man 5 1;man 5 2;first 0-hat;");
        Check.is("most below 0", 0, () -> y.cell(5, 4));
        SnowCanton z = Check.told("man 0 0;man 5 0;man 5 1;first 0-hat-1;");
        Check.is("not who doesn't touch", 1, () -> z.cell(5, 4));
        Check.is("though it gives less", 2, () -> z.cell(6, 4));
        StringBuilder text = new StringBuilder();
        for (int p = 0; p < 8; p++) {
            text.append("man 5 ").append(p == 7 ? 1 : 0).append(';');
        }
        SnowCanton w = Check.told(text + "first hat;");
        Check.is("the eighth of them", 7, () -> w.cell(5, 4));
    }

    /** The least int is a gift, too. */
    private static void least() {
        SnowCanton x = Check.told("man 5 0;first " + LEAST + ";");
        Check.is("the least int is more than none", 0, () -> x.cell(5, 4));
        SnowCanton y = Check.told("man 5 0;man 5 1;first " + LEAST + "+hat;");
        Check.is("1 more", 1, () -> y.cell(5, 4));
        SnowCanton z = Check.told("man 5 0;man 5 1;first " + LEAST + "-hat;");
        Check.is("1 less is the most int", 1, () -> z.cell(5, 4));
        SnowCanton w = Check.told("man 5 0;man 5 1;first " + LEAST + ";");
        Check.is("of like ones the least", 0, () -> w.cell(5, 4));
    }

    // "(without it: FAR least)".
    private static void without() {
        SnowCanton x = Check.told("canton 5 1;man 0 3;man 4 3;man 4 3;");
        int[] due = {0, 0, 0, 1, 1};
        for (int c = 0; c < 5; c++) {
            int cell = c;
            Check.is("the nearer of " + c, due[c], () -> x.cell(cell, 4));
        }
        SnowCanton y = Check.told("canton 5 5;man 12 3;roof 11 3;child 7 3;plough 13 3;");
        Check.is("by the sum of both", 1, () -> y.cell(10, 4));
        Check.is("far 0 of a plough", 3, () -> y.cell(13, 4));
        Check.is("a plough doesn't touch, though it is nearest", 0, () -> y.cell(14, 4));
        Check.is("far 1 of three: the least", 0, () -> y.cell(12, 4));
    }

    // "else nobody's".
    private static void nobody() {
        SnowCanton x = Check.told("man 0 0;plough 1 3;fall 0 2 5;first 9999;");
        Check.is("none touches", -1, () -> x.cell(2, 4));
        Check.is("no bits", 0, () -> x.cell(2, 3));
        Check.is("hour", 1, () -> x.hours(1));
        Check.is("it lies", 5, () -> x.cell(2, 1));
        Check.is("nobody's", -1, () -> x.cell(2, 2));
    }
}
