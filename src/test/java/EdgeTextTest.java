import java.util.List;

/** The document's edges of texts, sentence by sentence: what is told, TOKENS, FAULTS, and promises 1 to 4. */
final class EdgeTextTest {
    private static final String[] WORDS = {
        "canton", "height", "man", "child", "roof", "plough", "fall", "first", "or", "and", "a", "z", "hats", "ha", "foo",
    };
    private static final String[] KINDS = {"man", "child", "roof", "plough"};

    private EdgeTextTest() {
    }

    public static void main(String[] args) {
        newObject();
        newObjectHasNobody();
        feedNumbers();
        feedUpTo700();
        textOf700();
        cantonOfSoManyBytes();
        cantonAnew();
        sizes();
        heights();
        people();
        falls();
        tokens();
        blanks();
        numbers();
        endsTooSoon();
        cantStand();
        cantonAtTheBeginning();
        ninthOfPeopleAndMore();
        withinSixOthers();
        seventhNot();
        noValue();
        noSuchCell();
        toldTwice();
        leastOfOneToken();
        firstAlongTheText();
        Check.end("EdgeTextTest");
    }

    // Promise 1: "Nobody, 4 by 4 CELLS."
    private static void newObject() {
        SnowCanton x = new SnowCanton();
        for (int c = 0; c < 16; c++) {
            int cell = c;
            boolean isEdge = c < 4 || c > 11 || c % 4 == 0 || c % 4 == 3;
            int[] due = {0, 0, -1, 0, -1, c, isEdge ? 1 : 0};
            for (int w = 0; w < 7; w++) {
                int what = w;
                Check.is("new cell(" + c + ", " + w + ")", due[w], () -> x.cell(cell, what));
            }
            Check.is("new covered(" + c + ")", -1, () -> x.covered(cell));
        }
        Check.is("a cell 16", Check.NO_SUCH, () -> x.cell(16, 0));
        Check.is("a cell -1", Check.NO_SUCH, () -> x.cell(-1, 0));
        Check.is("cell 15 is by 4 and 4", 1, () -> x.see(15, 1, -1));
        Check.is("see of nobody is so without", 1, () -> x.hat(2));
        Check.is("nobody has a hat", 0, () -> x.hat(0));
        Check.is("nobody's first", -1, () -> x.hat(1));
        Check.is("nowhere to look", -1, () -> x.look(0));
        Check.is("none there", 0, () -> x.look(1));
        Check.is("wind over bare ground", 0, () -> x.wind(0));
        Check.is("thaw of bare ground", 0, () -> x.thaw(1));
        Check.is("hours", 1, () -> x.hours(1));
        Check.is("three acts", 3, () -> x.count(10));
    }

    private static void newObjectHasNobody() {
        int[] nobody = {0, -1, 7, 8};
        for (int p : nobody) {
            SnowCanton x = new SnowCanton();
            Check.is("new person " + p, Check.NO_SUCH, () -> x.person(p, 0));
            Check.is("new walk " + p, Check.NO_SUCH, () -> x.walk(p, 0));
            Check.is("new push " + p, Check.NO_SUCH, () -> x.push(p, 0));
            Check.is("new trespass " + p, Check.NO_SUCH, () -> x.trespass(p, 0, 0));
            Check.is("new then " + p, Check.NO_SUCH, () -> x.then(p, 0));
            Check.is("new stand " + p, Check.NO_SUCH, () -> x.stand(p, 1, 0));
            Check.is("new row " + p, Check.NO_SUCH, () -> x.row(p, 1, -1));
            Check.is("new heir " + p, Check.NO_SUCH, () -> x.heir(p, 1));
            Check.is("new game " + p, Check.NO_SUCH, () -> x.game(p, p, 0, 0));
            Check.is("nothing was refused", 0, () -> x.count(14));
        }
    }

    // Promise 2: "Twenty bytes come behind the tape, of each number the highest first".
    private static void feedNumbers() {
        SnowCanton x = new SnowCanton();
        Check.is("twenty", 20, () -> x.feed(0x6d616e20, 0x3020303b, 0x6d616e20, 0x3120313b, 0x6d616e20));
        Check.is("forty", 40, () -> x.feed(0x3220323b, 0x6d616e20, 0x3320333b, 0xffffffff, 0x80000000));
        Check.is("canton", 0, () -> x.canton(32));
        for (int p = 0; p < 4; p++) {
            int person = p;
            Check.is("cell of man " + p, p, () -> x.person(person, 1));
            Check.is("hat of man " + p, p, () -> x.person(person, 2));
        }
        SnowCanton y = new SnowCanton();
        Check.is("highest bytes", 20, () -> y.feed(0x6d616e20, 0x3020303b, 0x20202020, 0xffffffff, 0x80000000));
        Check.is("a byte of 255 is no token", 1, () -> y.canton(20));
        Check.is("its place", 12, y::fault);
    }

    // "NONE, and none come, if it would have more than 700."
    private static void feedUpTo700() {
        SnowCanton x = new SnowCanton();
        for (int i = 1; i <= 34; i++) {
            int due = 20 * i;
            Check.is("feed " + i, due, () -> x.feed(0x20202020, 0x20202020, 0x20202020, 0x20202020, 0x20202020));
        }
        Check.is("680 lie there", 680, () -> x.count(12));
        Check.is("700 are not more than 700", 700, () -> x.feed(0x20202020, 0x20202020, 0x20202020, 0x6d616e20, 0x3020303b));
        Check.is("720 are", -1, () -> x.feed(0x21212121, 0x21212121, 0x21212121, 0x21212121, 0x21212121));
        Check.is("again", -1, () -> x.feed(0, 0, 0, 0, 0));
        Check.is("none came", 700, () -> x.count(12));
        Check.is("that is no refused text", 0, () -> x.count(13));
        Check.is("nor act", 0, () -> x.count(14));
        Check.is("nor what is seen", 0, () -> x.count(15));
        Check.is("701 bytes are not there", Check.ILLEGAL, () -> x.canton(701));
        Check.is("all 700 are as fed", 0, () -> x.canton(700));
        Check.is("one man", 1, () -> x.count(2));
        Check.is("there is room again", 20, () -> x.feed(0, 0, 0, 0, 0));
    }

    // "A TEXT of at most 700 bytes".
    private static void textOf700() {
        String text = " ".repeat(692) + "man 5 2;";
        SnowCanton x = new SnowCanton();
        Check.is("a text of 700", 0, () -> Check.read(x, text));
        Check.is("told by its last bytes", 5, () -> x.person(0, 1));
        SnowCanton y = new SnowCanton();
        Check.feed(y, text);
        Check.is("699 of it", 1, () -> y.canton(699));
        Check.is("end too soon", 699, y::fault);
        Check.fault(" ".repeat(699) + "!", 1, 699);
        StringBuilder rule = new StringBuilder("man 0 1;man 0 3;first hat");
        while (rule.length() < 698) {
            rule.append("+0");
        }
        String longest = rule.append(';').toString();
        SnowCanton z = new SnowCanton();
        Check.is("a rule up to byte 699", 0, () -> Check.read(z, longest));
        Check.is("is the rule", 1, () -> z.cell(0, 4));
    }

    // Promise 3: "The tape's first n bytes", "the tape has not so many, n below 0 (nothing changes)".
    private static void cantonOfSoManyBytes() {
        int[] wrong = {-1, Integer.MIN_VALUE, 21, 700, 701, Integer.MAX_VALUE};
        for (int n : wrong) {
            Check.leaves(() -> fedWith("man 0 1;man 1 1;    "), "canton(" + n + ") of 20 bytes", Check.ILLEGAL, x -> x.canton(n));
        }
        Check.leaves(SnowCanton::new, "canton(1) of none", Check.ILLEGAL, x -> x.canton(1));
        SnowCanton x = fedWith("man 0 1;man 1 1;    ");
        Check.is("canton(0) is empty, and a canton", 0, () -> x.canton(0));
        Check.is("of nobody", 0, () -> x.count(2));
        Check.is("the tape is empty then", 0, () -> x.count(12));
        SnowCanton y = fedWith("man 0 1;man 1 1;    ");
        Check.is("just so many", 0, () -> y.canton(20));
        Check.is("two men", 2, () -> y.count(2));
        SnowCanton z = fedWith("man 0 1;man 1 1;?   ");
        Check.is("a fault behind the first n bytes is none", 0, () -> z.canton(16));
        Check.is("the rest is gone, too", Check.ILLEGAL, () -> z.canton(1));
        SnowCanton w = fedWith("man 0 1?            ");
        Check.is("a fault", 1, () -> w.canton(20));
        Check.is("an empty tape", 0, () -> w.count(12));
        Check.is("the place", 7, w::fault);
        Check.is("an illegal n leaves it", Check.ILLEGAL, () -> w.canton(1));
        Check.is("the place still", 7, w::fault);
        Check.is("one refused", 1, () -> w.count(13));
        Check.is("another fault", 2, () -> Check.read(w, "man 0 4;"));
        Check.is("the latest one's place", 6, w::fault);
        Check.is("two refused", 2, () -> w.count(13));
        Check.is("an empty text", 0, () -> w.canton(0));
        Check.is("none then", -1, w::fault);
        Check.is("two refused still", 2, () -> w.count(13));
    }

    private static SnowCanton fedWith(String text) {
        SnowCanton x = new SnowCanton();
        Check.feed(x, text);
        return x;
    }

    // "all anew": nothing of an earlier text is left, told or found.
    private static void cantonAnew() {
        SnowCanton x = Check.told("canton 2 2;height 0 9;height 3 4;man 0 1;man 1 3;fall 0 0 5;first hat;");
        Check.is("the rule", 1, () -> x.cell(0, 4));
        Check.is("as told by it", 0, () -> Check.read(x, "height 0 1;man 0 1;man 1 3;first 1;"));
        Check.is("4 by 4 without", 16, () -> x.count(0) * x.count(1));
        Check.is("another rule", 0, () -> x.cell(0, 4));
        Check.is("another height", 1, () -> x.cell(0, 0));
        Check.is("no height", 0, () -> x.cell(3, 0));
        Check.is("no fall", 0, () -> x.count(3));
        Check.is("without a rule", 0, () -> Check.read(x, "man 1 3;man 0 1;"));
        Check.is("it is the nearer", 1, () -> x.cell(0, 4));
        Check.is("a fault behind a rule and a height", 1, () -> Check.read(x, "first 0;height 2 2;man 2 2;!"));
        Check.is("is no rule told already, nor a height", 0, () -> Check.read(x, "first hat;height 2 3;man 2 2;"));
        Check.is("one man", 1, () -> x.count(2));
        Check.is("eight after it", 0, () -> Check.read(x, "man 0 1;".repeat(8)));
        Check.is("eight again", 0, () -> Check.read(x, "man 0 1;".repeat(8)));
        Check.is("24 falls", 0, () -> Check.read(x, "fall 0 0 1;".repeat(24)));
        Check.is("24 again", 0, () -> Check.read(x, "fall 0 0 1;".repeat(24)));
        Check.is("and no man", 0, () -> x.count(2));
        Check.is("one refused", 1, () -> x.count(13));
    }

    // "THE CANTON is W by H CELLS (1 to 5 each ..)".
    private static void sizes() {
        for (int w = 0; w <= 6; w++) {
            for (int h = 0; h <= 6; h++) {
                String text = "canton " + w + " " + h + ";";
                boolean isWide = w >= 1 && w <= 5;
                boolean isHigh = h >= 1 && h <= 5;
                Check.fault(text, isWide && isHigh ? 0 : 2, !isWide ? 7 : isHigh ? -1 : 9);
                if (isWide && isHigh) {
                    sized(text, w, h);
                }
            }
        }
        Check.fault("canton 9999 1;", 2, 7);
        Check.fault("canton 10000 1;", 2, 7);
        Check.fault("canton 0001 0005;", 0, -1);
    }

    private static void sized(String text, int w, int h) {
        SnowCanton x = Check.told(text + "man 0 0;");
        Check.is(text + " W", w, () -> x.count(0));
        Check.is(text + " H", h, () -> x.count(1));
        Check.is(text + " its last cell", 0, () -> x.cell(w * h - 1, 0));
        Check.is(text + " no such cell", Check.NO_SUCH, () -> x.cell(w * h, 0));
        Check.is(text + " from 0 to 1", w * h > 1 ? 0 : Check.NO_SUCH, () -> x.walk(0, 1));
        if (h > 1) {
            int last = w * h - 1;
            SnowCanton y = Check.told(text + "man " + last + " 0;");
            Check.is(text + " up by W", last, () -> y.walk(0, last - w));
        }
    }

    // "HEIGHT (0 to 9; 0 without)".
    private static void heights() {
        for (int h = 0; h <= 9; h++) {
            int height = h;
            SnowCanton x = Check.told("height 3 " + h + ";");
            Check.is("height " + h, height, () -> x.cell(3, 0));
            Check.is("without", 0, () -> x.cell(2, 0));
        }
        Check.fault("height 3 10;", 2, 9);
        Check.fault("height 3 9999;", 2, 9);
    }

    // "PEOPLE 0, 1 .. (at most 8): a KIND (..), a CELL (several may be in one), HAT (0 to 3)."
    private static void people() {
        SnowCanton x = Check.told("man 15 0;child 0 1;roof 0 2;plough 0 3;plough 1 0;roof 2 1;child 3 2;man 15 3;");
        int[] kinds = {0, 1, 2, 3, 3, 2, 1, 0};
        int[] cells = {15, 0, 0, 0, 1, 2, 3, 15};
        for (int i = 0; i < 8; i++) {
            int p = i;
            Check.is("kind of " + i, kinds[i], () -> x.person(p, 0));
            Check.is("cell of " + i, cells[i], () -> x.person(p, 1));
            Check.is("hat of " + i, p % 4, () -> x.person(p, 2));
        }
        Check.is("eight", 8, () -> x.count(2));
        Check.is("no ninth", Check.NO_SUCH, () -> x.person(8, 0));
        for (String kind : KINDS) {
            Check.fault(kind + " 0 3;", 0, -1);
            Check.fault(kind + " 0 4;", 2, kind.length() + 3);
            Check.fault(kind + " 15 0;", 0, -1);
            Check.fault(kind + " 16 0;", 3, kind.length() + 1);
        }
    }

    // "FALLS (at most 24): an HOUR (0 to 23), a CELL, so many FLAKES (1 to 99)."
    private static void falls() {
        SnowCanton x = Check.told("fall 0 15 1;fall 23 15 99;");
        Check.is("two", 2, () -> x.count(3));
        Check.is("hour 0", 1, () -> x.hours(1));
        Check.is("one flake", 1, () -> x.cell(15, 1));
        Check.is("up to hour 23", 23, () -> x.hours(22));
        Check.is("one flake still", 1, () -> x.cell(15, 1));
        Check.is("hour 23", 24, () -> x.hours(1));
        Check.is("99 more", 100, () -> x.cell(15, 1));
        Check.fault("fall 24 0 1;", 2, 5);
        Check.fault("fall 23 15 100;", 2, 11);
        Check.fault("fall 23 15 0;", 2, 11);
        SnowCanton y = Check.told("fall 7 3 1;".repeat(24));
        Check.is("24", 24, () -> y.count(3));
        Check.is("hours", 8, () -> y.hours(8));
        Check.is("all 24 fell", 24, () -> y.cell(3, 1));
    }

    // "words (a .. z, the longest row), NUMBERS (1 to 4 digits), signs"; any other byte is no TOKEN.
    private static void tokens() {
        Check.fault("man0 1;child1 2;first hat*2+far/3;", 0, -1);
        Check.fault("manchild 0 1;", 1, 0);
        Check.fault("man 0 1;firsthat;", 1, 8);
        Check.fault("first hatfar;", 3, 6);
        Check.fault("first notnot 1;", 3, 6);
        Check.fault("first not1;", 0, -1);
        Check.fault("first 1or 2and 3;", 0, -1);
        Check.fault("man 1 1 ;", 0, -1);
        Check.fault("man 0 0 1;", 1, 8);
        String no = "\u0000\u0001\t\u000b\f\r\u001f!\"#$%&'*,.:>?@A[Z\\]^_`{|}~\u007f\u0080\u00a0\u00e0\u00ff";
        for (int i = 0; i < no.length(); i++) {
            char sign = no.charAt(i);
            Check.fault("man 0 1;" + sign, 1, 8);
            Check.fault("man" + sign + "0 1;", 1, 3);
            Check.fault("man 0" + sign + "1;", 1, 5);
            Check.fault("man 0 1" + sign, 1, 7);
            if (sign != '*') {
                Check.fault("first 1" + sign + "1;", 1, 7);
            }
            Check.fault("first " + sign + "1;", 1, 6);
        }
    }

    // "blanks (32, 10) between them count for nothing".
    private static void blanks() {
        Check.fault(" ", 0, -1);
        Check.fault("\n", 0, -1);
        Check.fault("\n \n  canton\n2\n 2 \n;\n\nman\n3 0\n;\n", 0, -1);
        Check.fault("first\n(\nhat\n)\n*\n2\n<\n3\n;", 0, -1);
        Check.fault("  !", 1, 2);
        Check.fault("man 0 1 \n ", 1, 10);
        Check.fault("c anton 2 2;", 1, 0);
        Check.fault("man 1 0 0;", 1, 8);
    }

    // "NUMBERS (1 to 4 digits)", "a NUMBER of 5 digits or more" is too much wherever a NUMBER can stand.
    private static void numbers() {
        String[] before = {"canton ", "canton 1 ", "height ", "height 0 ", "man ", "man 0 ", "fall ", "fall 0 ", "fall 0 0 ",
            "first ", "first 1+", "first (", "first not ", "first 1=", "first 2*(3/"};
        String[] tooLong = {"00000", "00001", "10000", "99999", "2147483648", "4294967297", "99999999999999999999"};
        for (String ahead : before) {
            for (String number : tooLong) {
                Check.fault(ahead + number + ";", 2, ahead.length());
            }
        }
        String[] elsewhere = {"", "canton 1 1", "man 0 1", "fall 0 0 1 ", "first 1 ", "first hat ", "first (1) "};
        for (String ahead : elsewhere) {
            String text = ahead + " ";
            Check.fault(text + "12345;", 1, text.length());
            Check.fault(text + "1;", 1, text.length());
        }
        Check.fault("man 0000 0003;fall 0023 0015 0099;height 0015 0009;first 0000;", 0, -1);
    }

    /** A text of every kind of line, in its tokens. */
    private static List<String> whole() {
        return List.of(("canton 5 5 ; height 24 9 ; man 0 0 ; child 1 1 ; roof 2 2 ; plough 3 3 ; fall 23 24 99 ;"
                + " first ( not hat + far - 1 ) * kind / 2 < has and hour = 3 or tall ;").split(" "));
    }

    // "the text's length where it ends too soon": between any two tokens but behind a line.
    private static void endsTooSoon() {
        StringBuilder text = new StringBuilder();
        for (String token : whole()) {
            text.append(token);
            boolean isLine = token.equals(";");
            Check.fault(text.toString(), isLine ? 0 : 1, isLine ? -1 : text.length());
            text.append(' ');
            Check.fault(text.toString(), isLine ? 0 : 1, isLine ? -1 : text.length());
        }
        Check.fault("can", 1, 0);
        Check.fault("first hat+fa", 3, 10);
    }

    // "1 a TOKEN that can't stand there, or is none": at its first byte, wherever it is.
    private static void cantStand() {
        StringBuilder text = new StringBuilder();
        for (String token : whole()) {
            Check.fault(text + "!", 1, text.length());
            Check.fault(text + "! " + token, 1, text.length());
            text.append(token).append(' ');
        }
        Check.fault("man man;", 1, 4);
        Check.fault("man 0 hat;", 1, 6);
        Check.fault("man ; 0;", 1, 4);
        Check.fault("hat;", 1, 0);
        Check.fault("not 1;", 1, 0);
        Check.fault("or", 1, 0);
        Check.fault("7", 1, 0);
        Check.fault("(", 1, 0);
        Check.fault("first 1 not 2;", 1, 8);
        Check.fault("first hat far;", 1, 10);
        Check.fault("first 1 (2);", 1, 8);
        Check.fault("first (1)(2);", 1, 9);
        Check.fault("first 1 2;", 1, 8);
        Check.fault("first +1;", 1, 6);
        Check.fault("first 1++1;", 1, 8);
        Check.fault("first 1<<1;", 1, 8);
        Check.fault("first 1=<1;", 1, 8);
        Check.fault("first 1<1=1;", 1, 9);
        Check.fault("first (1<1)=1;", 0, -1);
        Check.fault("first not 1<1=1;", 1, 13);
        Check.fault("first 1<1 and 1=1<1;", 1, 17);
        Check.fault("first )1(;", 1, 6);
        Check.fault("first (1;)", 1, 8);
        Check.fault("first not ;", 1, 10);
        Check.fault("first 1 or ;", 1, 11);
        Check.fault("first 1 and ;", 1, 12);
        Check.fault("first 1 and)", 1, 11);
    }

    // "'canton' but at the beginning".
    private static void cantonAtTheBeginning() {
        Check.fault("\n canton 2 2;", 0, -1);
        Check.fault("canton 2 2;canton 2 2;", 1, 11);
        Check.fault("man 0 1;canton 2 2;", 1, 8);
        Check.fault("canton canton", 1, 7);
        Check.fault("canton 2 canton", 1, 9);
        Check.fault("canton 2 2 canton", 1, 11);
        Check.fault("man canton;", 1, 4);
        Check.fault("first 1 canton;", 1, 8);
    }

    // "the first TOKEN of the 9th of PEOPLE, the 25th FALL".
    private static void ninthOfPeopleAndMore() {
        for (String kind : KINDS) {
            Check.fault(kind.concat(" 0 0;").repeat(8), 0, -1);
            Check.fault("man 0 0;child 0 0;roof 0 0;plough 0 0;".repeat(2) + kind, 2, 76);
            Check.fault("roof 0 0;".repeat(8) + "fall 0 0 1;height 0 1;first 1;" + kind + " 0 0;", 2, 102);
        }
        Check.fault("fall 0 0 1;".repeat(24) + "man 0 0;fall 0 0 1;", 2, 272);
        Check.fault("fall 0 0 1;".repeat(24) + "fall", 2, 264);
        Check.fault("fall 0 0 1;".repeat(24) + "falls", 1, 264);
        Check.fault("man 0 0;".repeat(8) + "mans", 1, 64);
    }

    // "of an EXPR within 6 others (a NUMBER, any word, a parenthesis)".
    private static void withinSixOthers() {
        String[] canStand = {"1", "0000", "hat", "tall", "not", "foo", "and", "first", "canton", "(", "12345"};
        for (String first : canStand) {
            Check.fault("first ((((((" + first, 2, 12);
            Check.fault("first 1+(2*(not(3<(4 and(5 or(" + first, 2, 30);
        }
        String[] cant = {")", ";", "+", "-", "*", "/", "<", "=", "!", ""};
        for (String first : cant) {
            Check.fault("first ((((((" + first, 1, 12);
        }
        Check.fault("first (((((1+2)*3)/4)-5)<6);", 0, -1);
        Check.fault("first (((((hat)))))*(((((far))))) and not(((((kind)))));", 0, -1);
        Check.fault("first (((((hat)))))*((((((far)))))) and not(((((kind)))));", 2, 26);
        Check.fault("first ((((((", 1, 12);
        Check.fault("first (((((", 1, 11);
    }

    // "the seventh 'not' side by side".
    private static void seventhNot() {
        String six = "not ".repeat(6);
        Check.fault("first " + six + "hat;", 0, -1);
        Check.fault("first " + six + "not hat;", 2, 30);
        Check.fault("first " + six + "not", 2, 30);
        Check.fault("first " + six + "nots", 3, 30);
        Check.fault("first " + six + ";", 1, 30);
        Check.fault("first " + six + "(" + six + "hat);", 0, -1);
        Check.fault("first " + six + "1 and " + six + "1 or " + six + "1;", 0, -1);
        Check.fault("first 1 and " + six + "not 1;", 2, 36);
        Check.fault("first 1 or " + six + "not 1;", 2, 35);
        Check.fault("first (" + six + "not 1);", 2, 31);
        Check.fault("first not\nnot\nnot\nnot\nnot\nnot\nnot 1;", 2, 30);
    }

    // "3 any word where a PART must stand that is no VALUE".
    private static void noValue() {
        String[] before = {"first ", "first (", "first 1+", "first 1-", "first 1*", "first 1/", "first 1<", "first 1=", "first not ",
            "first 1 and ", "first 1 or ", "first not not not not not not ", "first (((((", "first hat+(far*"};
        for (String ahead : before) {
            for (String word : WORDS) {
                Check.fault(ahead + word + " 1;", 3, ahead.length());
            }
        }
        for (String sign : new String[] {"+", "-", "*", "/", "<", "="}) {
            Check.fault("first 1" + sign + "not 1;", 3, 8);
        }
        for (String value : new String[] {"hat", "far", "kind", "has", "hour", "tall"}) {
            Check.fault("first " + value + ";", 0, -1);
            Check.fault("first " + value + "s;", 3, 6);
            Check.fault("first x" + value + ";", 3, 6);
            Check.fault("first " + value.substring(0, value.length() - 1) + ";", 3, 6);
        }
    }

    // "a CELL that there isn't".
    private static void noSuchCell() {
        String[] before = {"height ", "man ", "child ", "roof ", "plough ", "fall 0 "};
        for (String ahead : before) {
            Check.fault(ahead + "16 1;", 3, ahead.length());
            Check.fault(ahead + "9999 1;", 3, ahead.length());
            Check.fault(ahead + "15 1;", 0, -1);
            String small = "canton 1 1;" + ahead;
            Check.fault(small + "0 1;", 0, -1);
            Check.fault(small + "1 1;", 3, small.length());
            String large = "canton 5 5;" + ahead;
            Check.fault(large + "24 1;", 0, -1);
            Check.fault(large + "25 1;", 3, large.length());
            String wide = "canton 5 2;" + ahead;
            Check.fault(wide + "9 1;", 0, -1);
            Check.fault(wide + "10 1;", 3, wide.length());
        }
    }

    // "4 a CELL whose HEIGHT is told already; 5 a second 'first'."
    private static void toldTwice() {
        Check.fault("height 0 1;height 0 1;", 4, 18);
        Check.fault("canton 5 5;height 24 0;height 23 0;height 24 0;", 4, 42);
        Check.fault("height 15 0;man 0 0;height 0015 9;", 4, 27);
        Check.fault("height 0 1;height 1 1;height 2 1;", 0, -1);
        Check.fault("height 0 1;height 0", 4, 18);
        Check.fault("first 1;man 0 0;first 1;", 5, 16);
        Check.fault("first 1;firsts", 1, 8);
        Check.fault("first 1;first", 5, 8);
    }

    // "of one TOKEN the least".
    private static void leastOfOneToken() {
        Check.fault("height 99999 1;", 2, 7);
        Check.fault("height 0 1;height 00000 1;", 2, 18);
        Check.fault("height 0 1;height 16 1;", 3, 18);
        Check.fault("first ((((((foo", 2, 12);
        Check.fault("first ((((((" + "not ".repeat(7), 2, 12);
        Check.fault("first ((((((99999", 2, 12);
        Check.fault("fall 99999 99 0;", 2, 5);
    }

    // "FAULTS, the first along the text".
    private static void firstAlongTheText() {
        Check.fault("height 16 10;!", 3, 7);
        Check.fault("man 0 9;!", 2, 6);
        Check.fault("first 1 1;first 1;", 1, 8);
        Check.fault("height 0 1;height 0 99999;", 4, 18);
        Check.fault("first 1;first foo;", 5, 8);
        Check.fault("canton 6 9;", 2, 7);
        Check.fault("canton 9 !", 2, 7);
        Check.fault("fall 24 16 100", 2, 5);
    }
}
