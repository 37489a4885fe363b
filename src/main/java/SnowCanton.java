import java.util.Arrays;
import java.util.NoSuchElementException;

/** Whose snow it is, in a canton of cells with people who touch what falls. */
public final class SnowCanton {
    public static final int NONE = -1;

    private static final int LONGEST_SIDE = 5;
    private static final int MOST_CELLS = LONGEST_SIDE * LONGEST_SIDE;
    private static final int MOST_PEOPLE = 8;
    private static final int MOST_FALLS = 24;
    private static final int MOST_BYTES = 700;
    private static final int MOST_ACTS = 40;
    private static final int MOST_SEEN = 8;
    private static final int MOST_FLAKES = 9999;
    private static final int MOST_HOURS = 9999;
    private static final int MOST_STEPS = 4;
    private static final int BIGGEST_HAT = 3;
    private static final int BYTES_A_FEED = 20;

    private static final int CHILD = 1;
    private static final int ROOF = 2;
    private static final int PLOUGH = 3;

    private static final int UP = 0;
    private static final int RIGHT = 1;
    private static final int DOWN = 2;
    private static final int LEFT = 3;
    private static final int WAYS = 4;

    /** The ways in the order of the neighbours' numbers, for "of like ones the least". */
    private static final int[] BY_NUMBER = {0, 3, 1, 2};

    private static final int REFUSED_TEXTS = 0;
    private static final int REFUSED_ACTS = 1;
    private static final int REFUSED_SEEN = 2;

    private final byte[] tape = new byte[MOST_BYTES];
    private int taped = 0;
    private int faultPlace = NONE;
    private final Canton told = new Canton();
    private final Canton draft = new Canton();
    private final Reader reader = new Reader(tape, draft);
    private final State now = new State(told);
    private final State kept = new State(told);
    private boolean isKept = false;
    private final Ways ways = new Ways(told, now.snow);
    private final Ahead ahead = new Ahead(told, now.snow);
    private final Guess guess = new Guess(told, now.snow, now.seen);

    public SnowCanton() {
        now.snow.begin();
    }

    public int feed(int a, int b, int c, int d, int e) {
        if (taped > MOST_BYTES - BYTES_A_FEED) {
            return NONE;
        }
        putNumber(a);
        putNumber(b);
        putNumber(c);
        putNumber(d);
        putNumber(e);
        return taped;
    }

    private void putNumber(int number) {
        for (int shift = 24; shift >= 0; shift -= 8) {
            if (taped < tape.length) {
                tape[taped] = (byte) (number >> shift);
                taped++;
            }
        }
    }

    public int canton(int n) throws IllegalArgumentException {
        proper(n >= 0 && n <= taped);
        taped = 0;
        int found = reader.read(n);
        if (found != 0) {
            faultPlace = reader.place();
            now.refuse(REFUSED_TEXTS);
            return found;
        }
        faultPlace = NONE;
        told.copyFrom(draft);
        now.beginAnew();
        isKept = false;
        return 0;
    }

    public int fault() {
        return faultPlace;
    }

    public int count(int what) throws NoSuchElementException {
        known(what >= 0 && what <= 15);
        switch (what) {
            case 0: return told.wide;
            case 1: return told.high;
            case 2: return told.people;
            case 3: return told.falls;
            case 4: return now.snow.hour();
            case 5: return now.snow.flakesInAll();
            case 6: return now.snow.held(NONE);
            case 7: return now.snow.covers();
            case 8: return poor();
            case 9: return now.snow.waterOf(NONE);
            case 10: return now.acts.size();
            case 11: return now.seen.size();
            case 12: return taped;
            default: return now.refused(what - 13);
        }
    }

    private int poor() {
        int all = 0;
        for (int person = 0; person < told.people; person++) {
            all += now.snow.held(person);
        }
        int bits = 0;
        for (int person = 0; person < told.people; person++) {
            if (now.snow.held(person) * 8 < all) {
                bits |= 1 << person;
            }
        }
        return bits;
    }

    public int cell(int cell, int what) throws NoSuchElementException {
        known(told.hasCell(cell) && what >= 0 && what <= 6);
        switch (what) {
            case 0: return told.heightOf(cell);
            case 1: return now.snow.flakesOn(cell);
            case 2: return now.snow.ownerOf(cell);
            case 3: return now.snow.touching(cell);
            case 4: return now.snow.ownerFor(cell);
            case 5: return told.waterEnd(cell);
            default: return told.reachesSea(cell) ? 1 : 0;
        }
    }

    public int person(int person, int what) throws NoSuchElementException {
        known(told.hasPerson(person) && what >= 0 && what <= 7);
        switch (what) {
            case 0: return told.kindOf(person);
            case 1: return now.snow.placeOf(person);
            case 2: return told.hatOf(person);
            case 3: return now.snow.held(person);
            case 4: return now.snow.cellsOf(person);
            case 5: return now.snow.waterOf(person);
            case 6: return ways.companies(person);
            default: return ways.largestCompany(person);
        }
    }

    public int hours(int many) {
        if (many < 1 || many > 48 || now.snow.hour() + many > MOST_HOURS) {
            return refuseAct();
        }
        now.keepAct();
        now.snow.goHours(many);
        return now.snow.hour();
    }

    public int walk(int person, int cell) throws NoSuchElementException {
        known(told.hasPerson(person) && told.hasCell(cell));
        int before = now.snow.placeOf(person);
        if (told.kindOf(person) == ROOF || told.far(before, cell) != 1) {
            return refuseAct();
        }
        now.keepAct();
        now.snow.place(person, cell);
        return before;
    }

    public int wind(int way) {
        if (way < 0 || way >= WAYS) {
            return refuseAct();
        }
        now.keepAct();
        return now.snow.blow(way);
    }

    public int thaw(int much) {
        if (much < 1 || much > 99) {
            return refuseAct();
        }
        now.keepAct();
        return now.snow.melt(much);
    }

    public int push(int person, int cell) throws NoSuchElementException {
        known(told.hasPerson(person) && told.hasCell(cell));
        int from = now.snow.placeOf(person);
        if (told.kindOf(person) != PLOUGH || told.far(from, cell) != 1) {
            return refuseAct();
        }
        now.keepAct();
        int much = now.snow.flakesOn(from);
        now.snow.shift(from, cell, much);
        return much;
    }

    private int refuseAct() {
        now.refuse(REFUSED_ACTS);
        return NONE;
    }

    public int undo() {
        return now.takeBackAct() ? now.acts.size() : NONE;
    }

    public int trespass(int person, int cell, int what) throws NoSuchElementException {
        known(told.hasPerson(person) && told.hasCell(cell) && isOneOf(what, 2));
        return what == 0 ? ways.fewestTrespasses(person, cell) : ways.stepsOfFewest(person, cell);
    }

    public int then(int person, int hours) throws NoSuchElementException, IllegalArgumentException {
        known(told.hasPerson(person));
        proper(hours >= 0 && hours <= 48);
        return ahead.heldIn(person, hours);
    }

    public int stand(int person, int hours, int what) throws NoSuchElementException, IllegalArgumentException {
        known(told.hasPerson(person) && isOneOf(what, 2));
        proper(hours >= 1 && hours <= 24);
        int best = ahead.bestPlace(person, hours);
        return what == 0 ? best : ahead.heldFrom(person, best, hours);
    }

    public int covered(int cell) throws NoSuchElementException {
        known(told.hasCell(cell));
        return ahead.coveredIn(cell);
    }

    public int coming(int cell, int hours) throws NoSuchElementException, IllegalArgumentException {
        known(told.hasCell(cell));
        proper(hours >= 0 && hours <= 48);
        return ahead.fallsOn(cell, hours);
    }

    public int row(int person, int many, int i) throws NoSuchElementException, IllegalArgumentException {
        known(told.hasPerson(person) && told.kindOf(person) == PLOUGH);
        proper(many >= 1 && many <= MOST_STEPS && told.cells > 1);
        known(i >= NONE && i < many);
        int much = ahead.bestRow(person, many);
        return i == NONE ? much : ahead.stepOfBestRow(i);
    }

    public int heir(int person, int hours) throws NoSuchElementException, IllegalArgumentException {
        known(told.hasPerson(person));
        proper(hours >= 1 && hours <= 24);
        return ahead.heirOf(person, hours);
    }

    public int see(int cell, int hours, int person) throws NoSuchElementException {
        known(told.hasCell(cell));
        boolean isWhose = person == NONE || told.hasPerson(person);
        if (now.seen.isFull() || hours < 1 || hours > 24 || !isWhose) {
            now.refuse(REFUSED_SEEN);
            return NONE;
        }
        now.seen.add(cell, hours, person);
        return now.seen.size();
    }

    public int hat(int what) throws NoSuchElementException {
        known(isOneOf(what, 3));
        switch (what) {
            case 0: return guess.howMany();
            case 1: return guess.first();
            default: return guess.fitsWithout() ? 1 : 0;
        }
    }

    public int look(int what) throws NoSuchElementException {
        known(isOneOf(what, 2));
        int next = guess.mostUnlikeCell();
        return what == 0 ? next : guess.ownersOf(next);
    }

    public void forget() {
        now.seen.clear();
    }

    public boolean partition() {
        for (int person = 0; person < told.people; person++) {
            if (told.kindOf(person) != ROOF && ahead.wouldWalk(person)) {
                return false;
            }
        }
        return true;
    }

    public int game(int person, int other, int cell, int what)
            throws NoSuchElementException, IllegalArgumentException {
        known(told.hasPerson(person) && told.hasPerson(other) && told.hasCell(cell) && isOneOf(what, 2));
        proper(person != other && told.kindOf(person) != ROOF && told.kindOf(other) != ROOF);
        ahead.play(person, other, cell);
        return what == 0 ? ahead.restingCouples() : ahead.firstRestingCouple();
    }

    public int winter(int seed, int n, int what) throws NoSuchElementException, IllegalArgumentException {
        known(isOneOf(what, 3));
        proper(n >= 0 && n <= 60);
        Snow end = ahead.winterOf(seed, n);
        switch (what) {
            case 0: return end.flakesInAll();
            case 1: return Integer.bitCount(end.cellsOf(NONE));
            default: return end.richest();
        }
    }

    public void image() {
        kept.copyFrom(now);
        isKept = true;
    }

    public boolean restore() {
        if (!isKept) {
            return false;
        }
        now.copyFrom(kept);
        return true;
    }

    private static boolean isOneOf(int what, int many) {
        return what >= 0 && what < many;
    }

    private static void known(boolean is) {
        if (!is) {
            throw new NoSuchElementException("there is no such one");
        }
    }

    private static void proper(boolean is) {
        if (!is) {
            throw new IllegalArgumentException("not as the document tells");
        }
    }

    /** What a text tells, and how its cells lie to one another; it stays until the next text. */
    private static final class Canton {
        private int wide = 4;
        private int high = 4;
        private int cells = 16;
        private int people = 0;
        private int falls = 0;
        private final int[] heights = new int[MOST_CELLS];
        private final int[] kinds = new int[MOST_PEOPLE];
        private final int[] homes = new int[MOST_PEOPLE];
        private final int[] hats = new int[MOST_PEOPLE];
        private final int[] fallHours = new int[MOST_FALLS];
        private final int[] fallCells = new int[MOST_FALLS];
        private final int[] fallFlakes = new int[MOST_FALLS];
        private final Rule rule = new Rule();

        void clear() {
            setSize(4, 4);
            people = 0;
            falls = 0;
            Arrays.fill(heights, 0);
            rule.clear();
        }

        void copyFrom(Canton other) {
            setSize(other.wide, other.high);
            people = other.people;
            falls = other.falls;
            System.arraycopy(other.heights, 0, heights, 0, MOST_CELLS);
            System.arraycopy(other.kinds, 0, kinds, 0, MOST_PEOPLE);
            System.arraycopy(other.homes, 0, homes, 0, MOST_PEOPLE);
            System.arraycopy(other.hats, 0, hats, 0, MOST_PEOPLE);
            System.arraycopy(other.fallHours, 0, fallHours, 0, MOST_FALLS);
            System.arraycopy(other.fallCells, 0, fallCells, 0, MOST_FALLS);
            System.arraycopy(other.fallFlakes, 0, fallFlakes, 0, MOST_FALLS);
            rule.copyFrom(other.rule);
        }

        void setSize(int w, int h) {
            if (w >= 1 && w <= LONGEST_SIDE && h >= 1 && h <= LONGEST_SIDE) {
                wide = w;
                high = h;
                cells = w * h;
            }
        }

        void setHeight(int cell, int height) {
            if (hasCell(cell)) {
                heights[cell] = height;
            }
        }

        void addPerson(int kind, int home, int size) {
            if (people < MOST_PEOPLE) {
                kinds[people] = kind;
                homes[people] = home;
                hats[people] = size;
                people++;
            }
        }

        void addFall(int hour, int where, int flakes) {
            if (falls < MOST_FALLS) {
                fallHours[falls] = hour;
                fallCells[falls] = where;
                fallFlakes[falls] = flakes;
                falls++;
            }
        }

        boolean hasCell(int cell) {
            return cell >= 0 && cell < cells && cell < MOST_CELLS;
        }

        boolean hasPerson(int person) {
            return person >= 0 && person < people && person < MOST_PEOPLE;
        }

        int heightOf(int cell) {
            return cell >= 0 && cell < MOST_CELLS ? heights[cell] : 0;
        }

        int kindOf(int person) {
            return hasPerson(person) ? kinds[person] : NONE;
        }

        int hatOf(int person) {
            return hasPerson(person) ? hats[person] : 0;
        }

        int far(int one, int other) {
            if (wide < 1) {
                return 0;
            }
            return Math.abs(one % wide - other % wide) + Math.abs(one / wide - other / wide);
        }

        int neighbour(int cell, int way) {
            if (wide < 1) {
                return NONE;
            }
            switch (way) {
                case UP: return cell >= wide ? cell - wide : NONE;
                case RIGHT: return cell % wide < wide - 1 ? cell + 1 : NONE;
                case DOWN: return cell + wide < cells ? cell + wide : NONE;
                case LEFT: return cell % wide > 0 ? cell - 1 : NONE;
                default: return NONE;
            }
        }

        private boolean isEdge(int cell) {
            for (int way = 0; way < WAYS; way++) {
                if (neighbour(cell, way) == NONE) {
                    return true;
                }
            }
            return false;
        }

        private int lowerNeighbour(int cell) {
            int lower = NONE;
            int least = heightOf(cell);
            for (int i = 0; i < WAYS; i++) {
                int next = neighbour(cell, BY_NUMBER[i]);
                if (next != NONE && heightOf(next) < least) {
                    lower = next;
                    least = heightOf(next);
                }
            }
            return lower;
        }

        int waterEnd(int cell) {
            int at = cell;
            for (int steps = 0; steps < MOST_CELLS; steps++) {
                int next = lowerNeighbour(at);
                if (next == NONE) {
                    return at;
                }
                at = next;
            }
            return at;
        }

        boolean reachesSea(int cell) {
            return isEdge(waterEnd(cell));
        }
    }

    /** FIRST, as steps in the order in which they are done: operands ahead of what joins them. */
    private static final class Rule {
        // A step of 0 or more is a number; the values are -1 to -6, and what joins is below them.
        private static final int HAT = -1;
        private static final int FAR = -2;
        private static final int KIND = -3;
        private static final int HAS = -4;
        private static final int HOUR = -5;
        private static final int TALL = -6;
        private static final int VALUES = 6;
        private static final int NOT = -7;
        private static final int OR = -8;
        private static final int AND = -9;
        private static final int LESS = -10;
        private static final int EQUAL = -11;
        private static final int PLUS = -12;
        private static final int MINUS = -13;
        private static final int TIMES = -14;
        private static final int BY = -15;

        // Six EXPRs within one another leave at most five operands open each.
        private static final int DEEPEST = 40;

        private final int[] steps = new int[MOST_BYTES];
        private int size = 0;
        private final int[] open = new int[DEEPEST];
        private final int[] values = new int[VALUES];

        void clear() {
            size = 0;
        }

        void copyFrom(Rule other) {
            size = other.size;
            System.arraycopy(other.steps, 0, steps, 0, size);
        }

        boolean isTold() {
            return size > 0;
        }

        void add(int step) {
            if (size < steps.length) {
                steps[size] = step;
                size++;
            }
        }

        void setValue(int value, int to) {
            int index = -1 - value;
            if (index >= 0 && index < VALUES) {
                values[index] = to;
            }
        }

        int worth() {
            int top = 0;
            for (int i = 0; i < size; i++) {
                int step = steps[i];
                if (step > NOT) {
                    if (top < DEEPEST) {
                        open[top] = step >= 0 ? step : values[-1 - step];
                        top++;
                    }
                } else if (step == NOT) {
                    if (top > 0) {
                        open[top - 1] = open[top - 1] == 0 ? 1 : 0;
                    }
                } else if (top > 1) {
                    open[top - 2] = join(step, open[top - 2], open[top - 1]);
                    top--;
                }
            }
            return top > 0 ? open[0] : 0;
        }

        private static int join(int step, int left, int right) {
            switch (step) {
                case OR: return left != 0 || right != 0 ? 1 : 0;
                case AND: return left != 0 && right != 0 ? 1 : 0;
                case LESS: return left < right ? 1 : 0;
                case EQUAL: return left == right ? 1 : 0;
                case PLUS: return left + right;
                case MINUS: return left - right;
                case TIMES: return left * right;
                case BY: return right == 0 ? 0 : left / right;
                default: return 0;
            }
        }
    }

    /** Reads a text into a draft, TOKEN by TOKEN, up to the first FAULT. */
    private static final class Reader {
        private static final int CANT_STAND = 1;
        private static final int TOO_MUCH = 2;
        private static final int UNKNOWN = 3;
        private static final int TOLD_ALREADY = 4;
        private static final int SECOND_FIRST = 5;

        private static final int END = 0;
        private static final int WORD = 1;
        private static final int NUMBER = 2;
        private static final int SIGN = 3;
        private static final int NO_TOKEN = 4;

        private static final int MOST_DIGITS = 4;
        private static final int DEEPEST = 6;
        private static final int MOST_NOTS = 6;

        private final byte[] text;
        private final Canton into;
        private int length = 0;
        private int at = 0;
        private int token = END;
        private int start = 0;
        private int number = 0;
        private int toldHeights = 0;
        private int found = 0;

        Reader(byte[] text, Canton into) {
            this.text = text;
            this.into = into;
        }

        /** The FAULT of the first n bytes, or 0: then the draft is whole. */
        int read(int n) {
            length = Math.min(n, text.length);
            at = 0;
            toldHeights = 0;
            found = 0;
            into.clear();
            next();
            if (isWord("canton") && !readSize()) {
                return found;
            }
            for (int line = 0; line < length && token != END; line++) {
                if (!readLine()) {
                    return found;
                }
            }
            return 0;
        }

        int place() {
            return start;
        }

        private boolean refuse(int why) {
            found = why;
            return false;
        }

        private boolean readSize() {
            next();
            if (!isNumber(1, LONGEST_SIDE)) {
                return false;
            }
            int wide = number;
            next();
            if (!isNumber(1, LONGEST_SIDE)) {
                return false;
            }
            into.setSize(wide, number);
            next();
            return passSign(';');
        }

        private boolean readLine() {
            if (isWord("height")) {
                return readHeight();
            }
            int kind = kindTold();
            if (kind != NONE) {
                return readPerson(kind);
            }
            if (isWord("fall")) {
                return readFall();
            }
            return isWord("first") ? readFirst() : refuse(CANT_STAND);
        }

        private int kindTold() {
            if (isWord("man")) {
                return 0;
            }
            if (isWord("child")) {
                return CHILD;
            }
            if (isWord("roof")) {
                return ROOF;
            }
            return isWord("plough") ? PLOUGH : NONE;
        }

        private boolean readHeight() {
            next();
            if (!isCell()) {
                return false;
            }
            int where = number;
            if ((toldHeights >> where & 1) != 0) {
                return refuse(TOLD_ALREADY);
            }
            toldHeights |= 1 << where;
            next();
            if (!isNumber(0, 9)) {
                return false;
            }
            into.setHeight(where, number);
            next();
            return passSign(';');
        }

        private boolean readPerson(int kind) {
            if (into.people >= MOST_PEOPLE) {
                return refuse(TOO_MUCH);
            }
            next();
            if (!isCell()) {
                return false;
            }
            int home = number;
            next();
            if (!isNumber(0, BIGGEST_HAT)) {
                return false;
            }
            into.addPerson(kind, home, number);
            next();
            return passSign(';');
        }

        private boolean readFall() {
            if (into.falls >= MOST_FALLS) {
                return refuse(TOO_MUCH);
            }
            next();
            if (!isNumber(0, 23)) {
                return false;
            }
            int hour = number;
            next();
            if (!isCell()) {
                return false;
            }
            int where = number;
            next();
            if (!isNumber(1, 99)) {
                return false;
            }
            into.addFall(hour, where, number);
            next();
            return passSign(';');
        }

        private boolean readFirst() {
            if (into.rule.isTold()) {
                return refuse(SECOND_FIRST);
            }
            next();
            return readExpr(0) && passSign(';');
        }

        private boolean passSign(char sign) {
            if (!isSign(sign)) {
                return refuse(CANT_STAND);
            }
            next();
            return true;
        }

        private boolean isNumber(int least, int most) {
            if (token != NUMBER) {
                return refuse(CANT_STAND);
            }
            number = numberTold();
            return number >= least && number <= most || refuse(TOO_MUCH);
        }

        private boolean isCell() {
            if (token != NUMBER) {
                return refuse(CANT_STAND);
            }
            number = numberTold();
            if (number == NONE) {
                return refuse(TOO_MUCH);
            }
            return into.hasCell(number) || refuse(UNKNOWN);
        }

        /** NONE, if it has too many digits. */
        private int numberTold() {
            if (at - start > MOST_DIGITS) {
                return NONE;
            }
            int sum = 0;
            for (int i = start; i < at; i++) {
                sum = sum * 10 + byteAt(i) - '0';
            }
            return sum;
        }

        /** depth: how many EXPRs this one is within. */
        private boolean readExpr(int depth) {
            if (depth >= DEEPEST) {
                boolean canStand = token == NUMBER || token == WORD || isSign('(');
                return refuse(canStand ? TOO_MUCH : CANT_STAND);
            }
            if (!readAnd(depth)) {
                return false;
            }
            for (int i = 0; i < length && isWord("or"); i++) {
                next();
                if (!readAnd(depth)) {
                    return false;
                }
                into.rule.add(Rule.OR);
            }
            return true;
        }

        private boolean readAnd(int depth) {
            if (!readNot(depth)) {
                return false;
            }
            for (int i = 0; i < length && isWord("and"); i++) {
                next();
                if (!readNot(depth)) {
                    return false;
                }
                into.rule.add(Rule.AND);
            }
            return true;
        }

        private boolean readNot(int depth) {
            int nots = 0;
            while (nots < MOST_NOTS && isWord("not")) {
                nots++;
                next();
            }
            if (isWord("not")) {
                return refuse(TOO_MUCH);
            }
            if (!readTest(depth)) {
                return false;
            }
            for (int i = 0; i < nots; i++) {
                into.rule.add(Rule.NOT);
            }
            return true;
        }

        private boolean readTest(int depth) {
            if (!readSum(depth)) {
                return false;
            }
            boolean isLess = isSign('<');
            if (!isLess && !isSign('=')) {
                return true;
            }
            next();
            if (!readSum(depth)) {
                return false;
            }
            into.rule.add(isLess ? Rule.LESS : Rule.EQUAL);
            return true;
        }

        private boolean readSum(int depth) {
            if (!readProduct(depth)) {
                return false;
            }
            for (int i = 0; i < length && (isSign('+') || isSign('-')); i++) {
                int step = isSign('+') ? Rule.PLUS : Rule.MINUS;
                next();
                if (!readProduct(depth)) {
                    return false;
                }
                into.rule.add(step);
            }
            return true;
        }

        private boolean readProduct(int depth) {
            if (!readPart(depth)) {
                return false;
            }
            for (int i = 0; i < length && (isSign('*') || isSign('/')); i++) {
                int step = isSign('*') ? Rule.TIMES : Rule.BY;
                next();
                if (!readPart(depth)) {
                    return false;
                }
                into.rule.add(step);
            }
            return true;
        }

        private boolean readPart(int depth) {
            if (isSign('(')) {
                next();
                return readExpr(depth + 1) && passSign(')');
            }
            if (token == WORD) {
                number = valueTold();
                if (number == 0) {
                    return refuse(UNKNOWN);
                }
            } else if (!isNumber(0, 9999)) {
                return false;
            }
            into.rule.add(number);
            next();
            return true;
        }

        private int valueTold() {
            if (isWord("hat")) {
                return Rule.HAT;
            }
            if (isWord("far")) {
                return Rule.FAR;
            }
            if (isWord("kind")) {
                return Rule.KIND;
            }
            if (isWord("has")) {
                return Rule.HAS;
            }
            if (isWord("hour")) {
                return Rule.HOUR;
            }
            return isWord("tall") ? Rule.TALL : 0;
        }

        private boolean isWord(String word) {
            if (token != WORD || at - start != word.length()) {
                return false;
            }
            for (int i = 0; i < word.length(); i++) {
                if (byteAt(start + i) != word.charAt(i)) {
                    return false;
                }
            }
            return true;
        }

        private boolean isSign(char sign) {
            return token == SIGN && byteAt(start) == sign;
        }

        private void next() {
            while (at < length && (byteAt(at) == ' ' || byteAt(at) == 10)) {
                at++;
            }
            start = at;
            token = tokenOf(byteAt(at));
            if (token == WORD || token == NUMBER) {
                while (at < length && tokenOf(byteAt(at)) == token) {
                    at++;
                }
            } else if (token != END) {
                at++;
            }
        }

        private int byteAt(int index) {
            return index >= 0 && index < length && index < text.length ? text[index] & 255 : NONE;
        }

        private static int tokenOf(int sign) {
            if (sign == NONE) {
                return END;
            }
            if (sign >= 'a' && sign <= 'z') {
                return WORD;
            }
            if (sign >= '0' && sign <= '9') {
                return NUMBER;
            }
            switch (sign) {
                case ';': case '(': case ')': case '+': case '-': case '*': case '/': case '<': case '=':
                    return SIGN;
                default:
                    return NO_TOKEN;
            }
        }
    }

    /** The snow at one time: all of it in one row of numbers, so that it is copied at once. */
    private static final class Snow {
        private static final int HOUR = 0;
        private static final int WATER = 1;
        private static final int PLACES = WATER + MOST_PEOPLE + 1;
        private static final int FLAKES = PLACES + MOST_PEOPLE;
        private static final int OWNERS = FLAKES + MOST_CELLS;
        private static final int CHANGED_BY_ACTS = OWNERS + MOST_CELLS;
        // Behind these stands what only a trial changes.
        private static final int HATS = CHANGED_BY_ACTS;
        private static final int ABSENT = HATS + MOST_PEOPLE;
        private static final int SIZE = ABSENT + 1;

        private final Canton canton;
        private final int[] all = new int[SIZE];

        Snow(Canton canton) {
            this.canton = canton;
        }

        void begin() {
            Arrays.fill(all, 0);
            Arrays.fill(all, OWNERS, OWNERS + MOST_CELLS, NONE);
            System.arraycopy(canton.homes, 0, all, PLACES, MOST_PEOPLE);
            System.arraycopy(canton.hats, 0, all, HATS, MOST_PEOPLE);
            all[ABSENT] = NONE;
        }

        void copyFrom(Snow other) {
            System.arraycopy(other.all, 0, all, 0, SIZE);
        }

        int hour() {
            return all[HOUR];
        }

        int flakesOn(int cell) {
            return canton.hasCell(cell) ? all[FLAKES + cell] : 0;
        }

        int ownerOf(int cell) {
            return canton.hasCell(cell) ? all[OWNERS + cell] : NONE;
        }

        int placeOf(int person) {
            return canton.hasPerson(person) ? all[PLACES + person] : 0;
        }

        int waterOf(int owner) {
            return owner >= NONE && owner < MOST_PEOPLE ? all[WATER + 1 + owner] : 0;
        }

        private void addWater(int owner, int much) {
            if (owner >= NONE && owner < MOST_PEOPLE) {
                all[WATER + 1 + owner] += much;
            }
        }

        void place(int person, int cell) {
            if (canton.hasPerson(person) && canton.hasCell(cell)) {
                all[PLACES + person] = cell;
            }
        }

        void wear(int person, int size) {
            if (canton.hasPerson(person)) {
                all[HATS + person] = size;
            }
        }

        void leaveOut(int person) {
            all[ABSENT] = person;
        }

        int held(int owner) {
            int sum = 0;
            for (int cell = 0; cell < canton.cells; cell++) {
                if (all[OWNERS + cell] == owner) {
                    sum += all[FLAKES + cell];
                }
            }
            return sum;
        }

        int flakesInAll() {
            int sum = 0;
            for (int cell = 0; cell < canton.cells; cell++) {
                sum += all[FLAKES + cell];
            }
            return sum;
        }

        int covers() {
            int bits = 0;
            for (int cell = 0; cell < canton.cells; cell++) {
                if (all[FLAKES + cell] > 0) {
                    bits |= 1 << cell;
                }
            }
            return bits;
        }

        int cellsOf(int owner) {
            int bits = 0;
            for (int cell = 0; cell < canton.cells; cell++) {
                if (all[FLAKES + cell] > 0 && all[OWNERS + cell] == owner) {
                    bits |= 1 << cell;
                }
            }
            return bits;
        }

        int richest() {
            int best = NONE;
            int most = 0;
            for (int person = 0; person < canton.people; person++) {
                int much = held(person);
                if (much > most) {
                    best = person;
                    most = much;
                }
            }
            return best;
        }

        /** Whether one who is there touches what is so far from where he stands. */
        private boolean reaches(int person, int far) {
            int reach = all[HATS + person];
            if (canton.kinds[person] == PLOUGH) {
                reach = 0;
            } else if (canton.kinds[person] == CHILD && all[HOUR] % 2 == 0) {
                reach++;
            }
            return person != all[ABSENT] && far <= reach;
        }

        int touching(int cell) {
            int bits = 0;
            for (int person = 0; person < canton.people; person++) {
                if (reaches(person, canton.far(all[PLACES + person], cell))) {
                    bits |= 1 << person;
                }
            }
            return bits;
        }

        /** Whose it is that falls on a bare cell. */
        int ownerFor(int cell) {
            Rule rule = canton.rule;
            int best = NONE;
            int most = 0;
            for (int person = 0; person < canton.people; person++) {
                int far = canton.far(all[PLACES + person], cell);
                if (reaches(person, far)) {
                    int worth = -far;
                    if (rule.isTold()) {
                        tellValues(rule, person, far);
                        worth = rule.worth();
                    }
                    if (best == NONE || worth > most) {
                        best = person;
                        most = worth;
                    }
                }
            }
            return best;
        }

        private void tellValues(Rule rule, int person, int far) {
            int kind = canton.kinds[person];
            int place = all[PLACES + person];
            rule.setValue(Rule.HAT, all[HATS + person]);
            rule.setValue(Rule.FAR, far);
            rule.setValue(Rule.KIND, kind);
            rule.setValue(Rule.HAS, held(person));
            rule.setValue(Rule.HOUR, all[HOUR] % 24);
            rule.setValue(Rule.TALL, canton.heightOf(place) + (kind == ROOF ? 3 : 0));
        }

        void fall(int cell, int flakes) {
            if (canton.hasCell(cell) && flakes > 0) {
                if (all[FLAKES + cell] == 0) {
                    all[OWNERS + cell] = ownerFor(cell);
                }
                all[FLAKES + cell] = Math.min(MOST_FLAKES, all[FLAKES + cell] + flakes);
            }
        }

        void goHours(int many) {
            for (int i = 0; i < many; i++) {
                int ofDay = all[HOUR] % 24;
                for (int fall = 0; fall < canton.falls; fall++) {
                    if (canton.fallHours[fall] == ofDay) {
                        fall(canton.fallCells[fall], canton.fallFlakes[fall]);
                    }
                }
                passHour();
            }
        }

        void passHour() {
            all[HOUR]++;
        }

        /** Some flakes of a heap go to another cell; NONE: over the edge. */
        void shift(int from, int to, int flakes) {
            if (!canton.hasCell(from) || flakes <= 0) {
                return;
            }
            if (canton.hasCell(to)) {
                if (all[FLAKES + to] == 0) {
                    all[OWNERS + to] = all[OWNERS + from];
                }
                all[FLAKES + to] = Math.min(MOST_FLAKES, all[FLAKES + to] + flakes);
            }
            lessen(from, flakes);
        }

        private void lessen(int cell, int flakes) {
            all[FLAKES + cell] = Math.max(0, all[FLAKES + cell] - flakes);
            if (all[FLAKES + cell] == 0) {
                all[OWNERS + cell] = NONE;
            }
        }

        /** How much is lost over the edge. */
        int blow(int way) {
            int lost = 0;
            int cells = canton.cells;
            boolean isUpwards = way == UP || way == LEFT;
            for (int i = 0; i < cells; i++) {
                int cell = isUpwards ? i : cells - 1 - i;
                int half = flakesOn(cell) / 2;
                int to = canton.neighbour(cell, way);
                shift(cell, to, half);
                lost += to == NONE ? half : 0;
            }
            return lost;
        }

        /** How much gets to the sea. */
        int melt(int much) {
            int sum = 0;
            for (int cell = 0; cell < canton.cells; cell++) {
                int less = Math.min(much, flakesOn(cell));
                if (less > 0) {
                    if (canton.reachesSea(cell)) {
                        addWater(all[OWNERS + cell], less);
                        sum += less;
                    }
                    lessen(cell, less);
                }
            }
            return sum;
        }
    }

    /** The snow as it was ahead of each of the latest acts, in a ring. */
    private static final class Acts {
        private static final int ROW = Snow.CHANGED_BY_ACTS;

        private final int[] rows = new int[MOST_ACTS * ROW];
        private int oldest = 0;
        private int many = 0;

        int size() {
            return many;
        }

        void clear() {
            oldest = 0;
            many = 0;
        }

        void copyFrom(Acts other) {
            oldest = other.oldest;
            many = other.many;
            System.arraycopy(other.rows, 0, rows, 0, rows.length);
        }

        void keep(Snow snow) {
            if (many == MOST_ACTS) {
                oldest = (oldest + 1) % MOST_ACTS;
                many--;
            }
            System.arraycopy(snow.all, 0, rows, (oldest + many) % MOST_ACTS * ROW, ROW);
            many++;
        }

        boolean takeBack(Snow snow) {
            if (many == 0) {
                return false;
            }
            many--;
            System.arraycopy(rows, (oldest + many) % MOST_ACTS * ROW, snow.all, 0, ROW);
            return true;
        }
    }

    /** What was seen, and whether a trial agrees with it. */
    private static final class Seen {
        private final int[] cells = new int[MOST_SEEN];
        private final int[] hours = new int[MOST_SEEN];
        private final int[] owners = new int[MOST_SEEN];
        private int many = 0;

        int size() {
            return many;
        }

        boolean isFull() {
            return many >= MOST_SEEN;
        }

        void clear() {
            many = 0;
        }

        void copyFrom(Seen other) {
            many = other.many;
            System.arraycopy(other.cells, 0, cells, 0, MOST_SEEN);
            System.arraycopy(other.hours, 0, hours, 0, MOST_SEEN);
            System.arraycopy(other.owners, 0, owners, 0, MOST_SEEN);
        }

        void add(int cell, int in, int owner) {
            if (many < MOST_SEEN) {
                cells[many] = cell;
                hours[many] = in;
                owners[many] = owner;
                many++;
            }
        }

        int latest() {
            int most = 0;
            for (int i = 0; i < many; i++) {
                most = Math.max(most, hours[i]);
            }
            return most;
        }

        boolean isSo(Snow snow, int in) {
            for (int i = 0; i < many; i++) {
                if (hours[i] == in && snow.ownerOf(cells[i]) != owners[i]) {
                    return false;
                }
            }
            return true;
        }
    }

    /** All that an image keeps. */
    private static final class State {
        private static final int KINDS_OF_REFUSAL = 3;

        private final Snow snow;
        private final Acts acts = new Acts();
        private final Seen seen = new Seen();
        private final int[] refusals = new int[KINDS_OF_REFUSAL];

        State(Canton canton) {
            snow = new Snow(canton);
        }

        void copyFrom(State other) {
            snow.copyFrom(other.snow);
            acts.copyFrom(other.acts);
            seen.copyFrom(other.seen);
            System.arraycopy(other.refusals, 0, refusals, 0, KINDS_OF_REFUSAL);
        }

        /** For a new text; what was refused before it still counts. */
        void beginAnew() {
            snow.begin();
            acts.clear();
            seen.clear();
        }

        void refuse(int kind) {
            if (kind >= 0 && kind < KINDS_OF_REFUSAL) {
                refusals[kind]++;
            }
        }

        int refused(int kind) {
            return kind >= 0 && kind < KINDS_OF_REFUSAL ? refusals[kind] : 0;
        }

        void keepAct() {
            acts.keep(snow);
        }

        boolean takeBackAct() {
            return acts.takeBack(snow);
        }
    }

    /** Companies, and the ways that trespass least. */
    private static final class Ways {
        // A trespass weighs more than the steps of any way without a cell twice.
        private static final int TRESPASS = 100;
        private static final int TOO_FAR = 1000000;

        private final Canton canton;
        private final Snow snow;
        private final int[] weights = new int[MOST_CELLS];

        Ways(Canton canton, Snow snow) {
            this.canton = canton;
            this.snow = snow;
        }

        int companies(int owner) {
            int rest = snow.cellsOf(owner);
            int sum = 0;
            for (; rest != 0 && sum < MOST_CELLS; sum++) {
                rest &= ~companyIn(rest);
            }
            return sum;
        }

        int largestCompany(int owner) {
            int rest = snow.cellsOf(owner);
            int most = 0;
            for (int i = 0; rest != 0 && i < MOST_CELLS; i++) {
                int company = companyIn(rest);
                most = Math.max(most, Integer.bitCount(company));
                rest &= ~company;
            }
            return most;
        }

        /** All cells of some (bits) that are joined to the least of them. */
        private int companyIn(int bits) {
            int company = Integer.lowestOneBit(bits);
            for (int i = 0; i < MOST_CELLS; i++) {
                int more = company | neighboursOf(company) & bits;
                if (more == company) {
                    return company;
                }
                company = more;
            }
            return company;
        }

        private int neighboursOf(int bits) {
            int around = 0;
            for (int cell = 0; cell < canton.cells; cell++) {
                if ((bits >> cell & 1) != 0) {
                    for (int way = 0; way < WAYS; way++) {
                        int next = canton.neighbour(cell, way);
                        around |= next == NONE ? 0 : 1 << next;
                    }
                }
            }
            return around;
        }

        int fewestTrespasses(int person, int cell) {
            return weightTo(person, cell) / TRESPASS;
        }

        int stepsOfFewest(int person, int cell) {
            return weightTo(person, cell) % TRESPASS;
        }

        private int weightTo(int person, int cell) {
            int from = snow.placeOf(person);
            if (!canton.hasCell(from) || !canton.hasCell(cell)) {
                return 0;
            }
            Arrays.fill(weights, TOO_FAR);
            weights[from] = 0;
            boolean isChanging = true;
            for (int i = 0; i < MOST_CELLS && isChanging; i++) {
                isChanging = lightenAll(person);
            }
            return weights[cell];
        }

        private boolean lightenAll(int person) {
            boolean isChanged = false;
            for (int cell = 0; cell < canton.cells; cell++) {
                int step = isTrespass(person, cell) ? TRESPASS + 1 : 1;
                for (int way = 0; way < WAYS; way++) {
                    int before = canton.neighbour(cell, way);
                    if (canton.hasCell(before) && weights[before] + step < weights[cell]) {
                        weights[cell] = weights[before] + step;
                        isChanged = true;
                    }
                }
            }
            return isChanged;
        }

        private boolean isTrespass(int person, int cell) {
            int owner = snow.ownerOf(cell);
            return owner != NONE && owner != person;
        }
    }

    /** What would be, tried on a copy of the snow. */
    private static final class Ahead {
        private static final int GAME_HOURS = 6;
        private static final int COUPLES = 4;

        private final Canton canton;
        private final Snow snow;
        private final Snow trial;
        private final int[] heldWith = new int[MOST_PEOPLE];
        private final int[] steps = new int[MOST_STEPS];
        private final int[] bestSteps = new int[MOST_STEPS];
        private final int[] gains = new int[COUPLES];
        private final int[] otherGains = new int[COUPLES];
        private int seed = 0;

        Ahead(Canton canton, Snow snow) {
            this.canton = canton;
            this.snow = snow;
            trial = new Snow(canton);
        }

        int heldIn(int person, int hours) {
            return heldFrom(person, snow.placeOf(person), hours);
        }

        int heldFrom(int person, int place, int hours) {
            trial.copyFrom(snow);
            trial.place(person, place);
            trial.goHours(hours);
            return trial.held(person);
        }

        int bestPlace(int person, int hours) {
            if (canton.kindOf(person) == ROOF) {
                return snow.placeOf(person);
            }
            int best = 0;
            int most = NONE;
            for (int place = 0; place < canton.cells; place++) {
                int much = heldFrom(person, place, hours);
                if (much > most) {
                    best = place;
                    most = much;
                }
            }
            return best;
        }

        int coveredIn(int cell) {
            trial.copyFrom(snow);
            for (int hours = 0; hours <= 48; hours++) {
                if (trial.flakesOn(cell) > 0) {
                    return hours;
                }
                trial.goHours(1);
            }
            return NONE;
        }

        int fallsOn(int cell, int hours) {
            int sum = 0;
            for (int i = 0; i < hours; i++) {
                int ofDay = (snow.hour() + i) % 24;
                for (int fall = 0; fall < canton.falls; fall++) {
                    if (canton.fallHours[fall] == ofDay && canton.fallCells[fall] == cell) {
                        sum += canton.fallFlakes[fall];
                    }
                }
            }
            return sum;
        }

        /** How much lies in the last cell of the best row, whose steps are kept. */
        int bestRow(int plough, int many) {
            int most = NONE;
            int rows = 1 << 2 * many;
            for (int row = 0; row < rows; row++) {
                int much = pushAlong(plough, many, row);
                if (much > most) {
                    most = much;
                    System.arraycopy(steps, 0, bestSteps, 0, MOST_STEPS);
                }
            }
            return most;
        }

        int stepOfBestRow(int i) {
            return i >= 0 && i < MOST_STEPS ? bestSteps[i] : NONE;
        }

        /** The row's steps are its pairs of bits, the highest first: so rows come by their cells' numbers. */
        private int pushAlong(int plough, int many, int row) {
            trial.copyFrom(snow);
            int at = trial.placeOf(plough);
            for (int i = 0; i < many && i < MOST_STEPS; i++) {
                int next = canton.neighbour(at, BY_NUMBER[row >> 2 * (many - 1 - i) & 3]);
                if (next == NONE) {
                    return NONE;
                }
                trial.shift(at, next, trial.flakesOn(at));
                steps[i] = next;
                at = next;
            }
            return trial.flakesOn(at);
        }

        int heirOf(int person, int hours) {
            trial.copyFrom(snow);
            trial.goHours(hours);
            for (int i = 0; i < MOST_PEOPLE; i++) {
                heldWith[i] = trial.held(i);
            }
            trial.copyFrom(snow);
            trial.leaveOut(person);
            trial.goHours(hours);
            int best = NONE;
            int most = 0;
            for (int i = 0; i < canton.people; i++) {
                int more = trial.held(i) - heldWith[i];
                if (i != person && more > most) {
                    best = i;
                    most = more;
                }
            }
            return best;
        }

        /** Whether one would have more by walking to a neighbour now. */
        boolean wouldWalk(int person) {
            int place = snow.placeOf(person);
            int staying = heldFrom(person, place, GAME_HOURS);
            for (int way = 0; way < WAYS; way++) {
                int next = canton.neighbour(place, way);
                if (next != NONE && heldFrom(person, next, GAME_HOURS) > staying) {
                    return true;
                }
            }
            return false;
        }

        /** Plays all four couples of choices: 2 by the first one's, and the other one's. */
        void play(int person, int other, int cell) {
            for (int couple = 0; couple < COUPLES; couple++) {
                trial.copyFrom(snow);
                if ((couple & 2) != 0) {
                    trial.place(person, cell);
                }
                if ((couple & 1) != 0) {
                    trial.place(other, cell);
                }
                trial.goHours(GAME_HOURS);
                gains[couple] = trial.held(person);
                otherGains[couple] = trial.held(other);
            }
        }

        private boolean isResting(int couple) {
            return gains[couple] >= gains[couple ^ 2] && otherGains[couple] >= otherGains[couple ^ 1];
        }

        int restingCouples() {
            int sum = 0;
            for (int couple = 0; couple < COUPLES; couple++) {
                sum += isResting(couple) ? 1 : 0;
            }
            return sum;
        }

        int firstRestingCouple() {
            for (int couple = 0; couple < COUPLES; couple++) {
                if (isResting(couple)) {
                    return couple / 2 * 10 + couple % 2;
                }
            }
            return NONE;
        }

        /** The snow at a winter's end; it is the trial itself, so it lasts until the next question. */
        Snow winterOf(int from, int hours) {
            seed = from;
            trial.copyFrom(snow);
            for (int i = 0; i < hours; i++) {
                int cell = draw(canton.cells);
                trial.fall(cell, draw(20));
                if (canton.people > 0) {
                    stroll(draw(canton.people));
                }
                trial.passHour();
            }
            return trial;
        }

        private void stroll(int person) {
            if (canton.kindOf(person) != ROOF) {
                int next = canton.neighbour(trial.placeOf(person), draw(WAYS));
                if (next != NONE) {
                    trial.place(person, next);
                }
            }
        }

        private int draw(int many) {
            seed = seed * 1103515245 + 12345;
            return many > 0 ? (seed >> 16 & 32767) % many : 0;
        }
    }

    /** Whose hat is another one, by what was seen. */
    private static final class Guess {
        private static final int LOOK_HOURS = 6;

        private final Canton canton;
        private final Snow snow;
        private final Seen seen;
        private final Snow trial;
        private final int[] owners = new int[MOST_CELLS];

        Guess(Canton canton, Snow snow, Seen seen) {
            this.canton = canton;
            this.snow = snow;
            this.seen = seen;
            trial = new Snow(canton);
        }

        /** Whether all that was seen would be so by another hat (person NONE: without one). */
        private boolean fits(int person, int size) {
            begin(person, size);
            int latest = seen.latest();
            for (int hours = 1; hours <= latest; hours++) {
                trial.goHours(1);
                if (!seen.isSo(trial, hours)) {
                    return false;
                }
            }
            return true;
        }

        private void begin(int person, int size) {
            trial.copyFrom(snow);
            trial.wear(person, size);
        }

        private boolean isAnother(int person, int size) {
            return canton.hatOf(person) != size;
        }

        boolean fitsWithout() {
            return fits(NONE, 0);
        }

        int howMany() {
            int sum = 0;
            for (int person = 0; person < canton.people; person++) {
                for (int size = 0; size <= BIGGEST_HAT; size++) {
                    sum += isAnother(person, size) && fits(person, size) ? 1 : 0;
                }
            }
            return sum;
        }

        int first() {
            for (int person = 0; person < canton.people; person++) {
                for (int size = 0; size <= BIGGEST_HAT; size++) {
                    if (isAnother(person, size) && fits(person, size)) {
                        return person * 10 + size;
                    }
                }
            }
            return NONE;
        }

        int mostUnlikeCell() {
            Arrays.fill(owners, 0);
            for (int person = 0; person < canton.people; person++) {
                for (int size = 0; size <= BIGGEST_HAT; size++) {
                    if (isAnother(person, size) && fits(person, size)) {
                        addOwners(person, size);
                    }
                }
            }
            int best = NONE;
            for (int cell = 0; cell < canton.cells; cell++) {
                if (ownersOf(cell) > ownersOf(best)) {
                    best = cell;
                }
            }
            return best;
        }

        private void addOwners(int person, int size) {
            begin(person, size);
            trial.goHours(LOOK_HOURS);
            for (int cell = 0; cell < canton.cells; cell++) {
                owners[cell] |= 1 << trial.ownerOf(cell) + 1;
            }
        }

        /** How many owners a cell would have, by the latest mostUnlikeCell(). */
        int ownersOf(int cell) {
            return canton.hasCell(cell) ? Integer.bitCount(owners[cell]) : 0;
        }
    }
}
