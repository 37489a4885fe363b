import java.util.ArrayDeque;
import java.util.ArrayList;
import java.util.Arrays;
import java.util.Deque;
import java.util.HashSet;
import java.util.List;
import java.util.NoSuchElementException;
import java.util.Set;

/** The document once more, written another way and with no thought of speed, to compare answers with. */
final class Model {
    private static final class Fault extends RuntimeException {
        private static final long serialVersionUID = 1L;
        final int code;
        final int place;

        Fault(int code, int place) {
            this.code = code;
            this.place = place;
        }
    }

    private record Token(char type, String text, int place) {
    }

    private interface Expr {
        int of(int hat, int far, int kind, int has, int hour, int tall);
    }

    private record Fall(int hour, int cell, int flakes) {
    }

    private static final class Told {
        int w = 4;
        int h = 4;
        Integer[] heights = new Integer[25];
        List<int[]> people = new ArrayList<>();
        List<Fall> falls = new ArrayList<>();
        Expr first = null;

        int height(int cell) {
            return heights[cell] == null ? 0 : heights[cell];
        }
    }

    /** A whole state that a trial may change; people's hats and absence too. */
    private final class World {
        int hour = 0;
        int[] flakes = new int[told.w * told.h];
        int[] owner = new int[told.w * told.h];
        int[] at = told.people.stream().mapToInt(p -> p[1]).toArray();
        int[] hat = told.people.stream().mapToInt(p -> p[2]).toArray();
        int[] water = new int[9];
        Set<Integer> gone = new HashSet<>();

        World() {
            Arrays.fill(owner, -1);
        }

        World copy() {
            World o = new World();
            o.hour = hour;
            o.flakes = flakes.clone();
            o.owner = owner.clone();
            o.at = at.clone();
            o.hat = hat.clone();
            o.water = water.clone();
            o.gone = new HashSet<>(gone);
            return o;
        }

        int has(int who) {
            int sum = 0;
            for (int c = 0; c < flakes.length; c++) {
                if (owner[c] == who) {
                    sum += flakes[c];
                }
            }
            return sum;
        }

        boolean touches(int p, int c) {
            int kind = told.people.get(p)[0];
            int reach = switch (kind) {
                case 1 -> hat[p] + 1 - hour % 24 % 2;
                case 3 -> 0;
                default -> hat[p];
            };
            return !gone.contains(p) && far(at[p], c) <= reach;
        }

        int whose(int c) {
            int who = -1;
            long best = Long.MIN_VALUE;
            for (int p = 0; p < at.length; p++) {
                if (!touches(p, c)) {
                    continue;
                }
                int far = far(at[p], c);
                int kind = told.people.get(p)[0];
                long v = told.first == null ? -far
                        : told.first.of(hat[p], far, kind, has(p), hour % 24, told.height(at[p]) + (kind == 2 ? 3 : 0));
                if (v > best) {
                    best = v;
                    who = p;
                }
            }
            return who;
        }

        void comes(int c, int n, int whoseIfBare) {
            if (n == 0) {
                return;
            }
            if (flakes[c] == 0) {
                owner[c] = whoseIfBare;
            }
            flakes[c] = Math.min(9999, flakes[c] + n);
        }

        void less(int c, int n) {
            flakes[c] -= n;
            if (flakes[c] == 0) {
                owner[c] = -1;
            }
        }

        World hours(int n) {
            for (int i = 0; i < n; i++) {
                for (Fall f : told.falls) {
                    if (f.hour == hour % 24) {
                        comes(f.cell, f.flakes, whose(f.cell));
                    }
                }
                hour++;
            }
            return this;
        }

        int push(int from, int to) {
            int n = flakes[from];
            comes(to, n, owner[from]);
            less(from, n);
            return n;
        }
    }

    private Told told = new Told();
    private String tape = "";
    private int faultPlace = -1;
    private World world = new World();
    private Deque<World> acts = new ArrayDeque<>();
    private List<int[]> seen = new ArrayList<>();
    private int[] status = new int[3];
    private Object[] image = null;

    private int far(int a, int b) {
        return Math.abs(a % told.w - b % told.w) + Math.abs(a / told.w - b / told.w);
    }

    /** In the order of their numbers. */
    private List<Integer> neighbours(int c) {
        List<Integer> all = new ArrayList<>();
        for (int o = 0; o < told.w * told.h; o++) {
            if (far(c, o) == 1) {
                all.add(o);
            }
        }
        return all;
    }

    private int toward(int c, int way) {
        int x = c % told.w + new int[] {0, 1, 0, -1}[way];
        int y = c / told.w + new int[] {-1, 0, 1, 0}[way];
        return x < 0 || y < 0 || x >= told.w || y >= told.h ? -1 : y * told.w + x;
    }

    private static void known(boolean is) {
        if (!is) {
            throw new NoSuchElementException();
        }
    }

    private static void proper(boolean is) {
        if (!is) {
            throw new IllegalArgumentException();
        }
    }

    private void cellIs(int c) {
        known(c >= 0 && c < told.w * told.h);
    }

    private void personIs(int p) {
        known(p >= 0 && p < told.people.size());
    }

    private boolean isKind(int p, int kind) {
        return told.people.get(p)[0] == kind;
    }

    int feed(int... numbers) {
        if (tape.length() + 20 > 700) {
            return -1;
        }
        for (int n : numbers) {
            tape += "" + (char) (n >>> 24) + (char) (n >>> 16 & 255) + (char) (n >>> 8 & 255) + (char) (n & 255);
        }
        return tape.length();
    }

    int canton(int n) {
        proper(n >= 0 && n <= tape.length());
        String text = tape.substring(0, n);
        tape = "";
        try {
            told = new Parser(text).whole();
        } catch (Fault f) {
            faultPlace = f.place;
            status[0]++;
            return f.code;
        }
        faultPlace = -1;
        world = new World();
        acts.clear();
        seen.clear();
        image = null;
        return 0;
    }

    int fault() {
        return faultPlace;
    }

    private static final class Parser {
        private final List<Token> tokens = new ArrayList<>();
        private int i = 0;
        private final Told told = new Told();

        Parser(String text) {
            int p = 0;
            while (p < text.length()) {
                char c = text.charAt(p);
                int e = p + 1;
                if (c == ' ' || c == '\n') {
                    p++;
                    continue;
                }
                if (c >= 'a' && c <= 'z') {
                    while (e < text.length() && text.charAt(e) >= 'a' && text.charAt(e) <= 'z') {
                        e++;
                    }
                    tokens.add(new Token('w', text.substring(p, e), p));
                } else if (c >= '0' && c <= '9') {
                    while (e < text.length() && text.charAt(e) >= '0' && text.charAt(e) <= '9') {
                        e++;
                    }
                    tokens.add(new Token('n', text.substring(p, e), p));
                } else {
                    tokens.add(new Token(";()+-*/<=".indexOf(c) >= 0 ? 's' : '?', String.valueOf(c), p));
                }
                p = e;
            }
            tokens.add(new Token('e', "", text.length()));
        }

        private Token peek() {
            return tokens.get(i);
        }

        private boolean is(String s) {
            return (peek().type == 'w' || peek().type == 's') && peek().text.equals(s);
        }

        private void need(boolean holds, int code) {
            if (!holds) {
                throw new Fault(code, peek().place);
            }
        }

        private void eat(String s) {
            need(is(s), 1);
            i++;
        }

        private int num(int least, int most) {
            need(peek().type == 'n', 1);
            need(peek().text.length() <= 4, 2);
            int n = Integer.parseInt(peek().text);
            need(n >= least && n <= most, 2);
            i++;
            return n;
        }

        private int cell(boolean forHeight) {
            need(peek().type == 'n', 1);
            need(peek().text.length() <= 4, 2);
            int n = Integer.parseInt(peek().text);
            need(n < told.w * told.h, 3);
            need(!forHeight || told.heights[n] == null, 4);
            i++;
            return n;
        }

        Told whole() {
            if (is("canton")) {
                i++;
                told.w = num(1, 5);
                told.h = num(1, 5);
                eat(";");
            }
            while (peek().type != 'e') {
                line();
            }
            return told;
        }

        private void line() {
            int kind = peek().type == 'w' ? List.of("man", "child", "roof", "plough").indexOf(peek().text) : -1;
            if (kind >= 0) {
                need(told.people.size() < 8, 2);
                i++;
                int c = cell(false);
                told.people.add(new int[] {kind, c, num(0, 3)});
            } else if (is("height")) {
                i++;
                int c = cell(true);
                told.heights[c] = num(0, 9);
            } else if (is("fall")) {
                need(told.falls.size() < 24, 2);
                i++;
                int hour = num(0, 23);
                int c = cell(false);
                told.falls.add(new Fall(hour, c, num(1, 99)));
            } else {
                need(is("first"), 1);
                need(told.first == null, 5);
                i++;
                told.first = expr(0);
            }
            eat(";");
        }

        private static int bit(boolean is) {
            return is ? 1 : 0;
        }

        private Expr expr(int within) {
            if (within == 6) {
                need(peek().type == 'n' || peek().type == 'w' || is("("), 1);
                need(false, 2);
            }
            Expr left = and(within);
            while (is("or")) {
                i++;
                Expr l = left;
                Expr r = and(within);
                left = (a, b, c, d, e, f) -> bit(l.of(a, b, c, d, e, f) != 0 || r.of(a, b, c, d, e, f) != 0);
            }
            return left;
        }

        private Expr and(int within) {
            Expr left = not(within, 1);
            while (is("and")) {
                i++;
                Expr l = left;
                Expr r = not(within, 1);
                left = (a, b, c, d, e, f) -> bit(l.of(a, b, c, d, e, f) != 0 && r.of(a, b, c, d, e, f) != 0);
            }
            return left;
        }

        private Expr not(int within, int nth) {
            if (is("not")) {
                need(nth < 7, 2);
                i++;
                Expr of = not(within, nth + 1);
                return (a, b, c, d, e, f) -> bit(of.of(a, b, c, d, e, f) == 0);
            }
            Expr l = sum(within);
            if (is("<")) {
                i++;
                Expr r = sum(within);
                return (a, b, c, d, e, f) -> bit(l.of(a, b, c, d, e, f) < r.of(a, b, c, d, e, f));
            }
            if (is("=")) {
                i++;
                Expr r = sum(within);
                return (a, b, c, d, e, f) -> bit(l.of(a, b, c, d, e, f) == r.of(a, b, c, d, e, f));
            }
            return l;
        }

        private Expr sum(int within) {
            Expr left = product(within);
            while (is("+") || is("-")) {
                int sign = is("+") ? 1 : -1;
                i++;
                Expr l = left;
                Expr r = product(within);
                left = (a, b, c, d, e, f) -> l.of(a, b, c, d, e, f) + sign * r.of(a, b, c, d, e, f);
            }
            return left;
        }

        private Expr product(int within) {
            Expr left = part(within);
            while (is("*") || is("/")) {
                boolean times = is("*");
                i++;
                Expr l = left;
                Expr r = part(within);
                left = (a, b, c, d, e, f) -> {
                    long x = l.of(a, b, c, d, e, f);
                    long y = r.of(a, b, c, d, e, f);
                    return (int) (times ? x * y : y == 0 ? 0 : x / y);
                };
            }
            return left;
        }

        private Expr part(int within) {
            if (is("(")) {
                i++;
                Expr inner = expr(within + 1);
                eat(")");
                return inner;
            }
            if (peek().type == 'w') {
                int v = List.of("hat", "far", "kind", "has", "hour", "tall").indexOf(peek().text);
                need(v >= 0, 3);
                i++;
                return (a, b, c, d, e, f) -> new int[] {a, b, c, d, e, f}[v];
            }
            int n = num(0, 9999);
            return (a, b, c, d, e, f) -> n;
        }
    }

    int count(int what) {
        int people = told.people.size();
        switch (what) {
            case 0: return told.w;
            case 1: return told.h;
            case 2: return people;
            case 3: return told.falls.size();
            case 4: return world.hour;
            case 5: return Arrays.stream(world.flakes).sum();
            case 6: return world.has(-1);
            case 7: {
                int bits = 0;
                for (int c = 0; c < world.flakes.length; c++) {
                    bits += world.flakes[c] > 0 ? 1 << c : 0;
                }
                return bits;
            }
            case 8: {
                int all = Arrays.stream(world.flakes).sum() - world.has(-1);
                int bits = 0;
                for (int p = 0; p < people; p++) {
                    bits += world.has(p) < all / 8.0 ? 1 << p : 0;
                }
                return bits;
            }
            case 9: return world.water[8];
            case 10: return acts.size();
            case 11: return seen.size();
            case 12: return tape.length();
            case 13: case 14: case 15: return status[what - 13];
            default: throw new NoSuchElementException();
        }
    }

    private int waterEnd(int c) {
        int to = c;
        for (int n : neighbours(c)) {
            if (told.height(n) < told.height(to)) {
                to = n;
            }
        }
        return to == c ? c : waterEnd(to);
    }

    private boolean sea(int c) {
        int e = waterEnd(c);
        int x = e % told.w;
        int y = e / told.w;
        return x == 0 || y == 0 || x == told.w - 1 || y == told.h - 1;
    }

    int cell(int c, int what) {
        cellIs(c);
        switch (what) {
            case 0: return told.height(c);
            case 1: return world.flakes[c];
            case 2: return world.owner[c];
            case 3: {
                int bits = 0;
                for (int p = 0; p < told.people.size(); p++) {
                    bits += world.touches(p, c) ? 1 << p : 0;
                }
                return bits;
            }
            case 4: return world.whose(c);
            case 5: return waterEnd(c);
            case 6: return sea(c) ? 1 : 0;
            default: throw new NoSuchElementException();
        }
    }

    private List<Integer> companies(int p) {
        List<Integer> sizes = new ArrayList<>();
        Set<Integer> done = new HashSet<>();
        for (int c = 0; c < world.flakes.length; c++) {
            if (world.flakes[c] > 0 && world.owner[c] == p && !done.contains(c)) {
                sizes.add(flood(p, c, done));
            }
        }
        return sizes;
    }

    private int flood(int p, int c, Set<Integer> done) {
        if (world.flakes[c] == 0 || world.owner[c] != p || !done.add(c)) {
            return 0;
        }
        int sum = 1;
        for (int n : neighbours(c)) {
            sum += flood(p, n, done);
        }
        return sum;
    }

    int person(int p, int what) {
        personIs(p);
        switch (what) {
            case 0: return told.people.get(p)[0];
            case 1: return world.at[p];
            case 2: return told.people.get(p)[2];
            case 3: return world.has(p);
            case 4: {
                int bits = 0;
                for (int c = 0; c < world.flakes.length; c++) {
                    bits += world.flakes[c] > 0 && world.owner[c] == p ? 1 << c : 0;
                }
                return bits;
            }
            case 5: return world.water[p];
            case 6: return companies(p).size();
            case 7: return companies(p).stream().mapToInt(x -> x).max().orElse(0);
            default: throw new NoSuchElementException();
        }
    }

    private int refused() {
        status[1]++;
        return -1;
    }

    private void act() {
        acts.addLast(world.copy());
        if (acts.size() > 40) {
            acts.removeFirst();
        }
    }

    int hours(int n) {
        if (n < 1 || n > 48 || world.hour + n > 9999) {
            return refused();
        }
        act();
        return world.hours(n).hour;
    }

    int walk(int p, int c) {
        personIs(p);
        cellIs(c);
        if (isKind(p, 2) || !neighbours(world.at[p]).contains(c)) {
            return refused();
        }
        act();
        int was = world.at[p];
        world.at[p] = c;
        return was;
    }

    int wind(int way) {
        if (way < 0 || way > 3) {
            return refused();
        }
        act();
        int[] was = world.flakes.clone();
        int lost = 0;
        // What is there ahead of the wind decides who owns, so all halves may go off first.
        int[] owner = world.owner.clone();
        for (int c = 0; c < was.length; c++) {
            world.flakes[c] -= was[c] / 2;
        }
        for (int c = 0; c < was.length; c++) {
            int to = toward(c, way);
            if (to < 0) {
                lost += was[c] / 2;
            } else {
                world.comes(to, was[c] / 2, owner[c]);
            }
        }
        return lost;
    }

    int thaw(int much) {
        if (much < 1 || much > 99) {
            return refused();
        }
        act();
        int sum = 0;
        for (int c = 0; c < world.flakes.length; c++) {
            int less = Math.min(much, world.flakes[c]);
            if (sea(c)) {
                world.water[world.owner[c] < 0 ? 8 : world.owner[c]] += less;
                sum += less;
            }
            world.less(c, less);
        }
        return sum;
    }

    int push(int p, int c) {
        personIs(p);
        cellIs(c);
        if (!isKind(p, 3) || !neighbours(world.at[p]).contains(c)) {
            return refused();
        }
        act();
        return world.push(world.at[p], c);
    }

    int undo() {
        if (acts.isEmpty()) {
            return -1;
        }
        world = acts.removeLast().copy();
        return acts.size();
    }

    int trespass(int p, int c, int what) {
        personIs(p);
        cellIs(c);
        known(what == 0 || what == 1);
        // Breadth by the number of steps; the best of each count of steps up to all cells.
        int cells = told.w * told.h;
        int[] fewest = new int[cells];
        Arrays.fill(fewest, 9999);
        fewest[world.at[p]] = 0;
        int best = fewest[c];
        int bestSteps = 0;
        for (int steps = 1; steps <= cells; steps++) {
            int[] next = new int[cells];
            Arrays.fill(next, 9999);
            for (int a = 0; a < cells; a++) {
                for (int b : neighbours(a)) {
                    int cost = world.flakes[b] > 0 && world.owner[b] >= 0 && world.owner[b] != p ? 1 : 0;
                    next[b] = Math.min(next[b], fewest[a] + cost);
                }
            }
            fewest = next;
            if (fewest[c] < best) {
                best = fewest[c];
                bestSteps = steps;
            }
        }
        return what == 0 ? best : bestSteps;
    }

    int then(int p, int hours) {
        personIs(p);
        proper(hours >= 0 && hours <= 48);
        return world.copy().hours(hours).has(p);
    }

    private int from(int p, int c, int hours) {
        World t = world.copy();
        t.at[p] = c;
        return t.hours(hours).has(p);
    }

    int stand(int p, int hours, int what) {
        personIs(p);
        known(what == 0 || what == 1);
        proper(hours >= 1 && hours <= 24);
        int best = -1;
        int where = -1;
        for (int c = 0; c < told.w * told.h; c++) {
            if ((!isKind(p, 2) || c == world.at[p]) && from(p, c, hours) > best) {
                best = from(p, c, hours);
                where = c;
            }
        }
        return what == 0 ? where : best;
    }

    int covered(int c) {
        cellIs(c);
        for (int k = 0; k <= 48; k++) {
            if (world.copy().hours(k).flakes[c] > 0) {
                return k;
            }
        }
        return -1;
    }

    int coming(int c, int hours) {
        cellIs(c);
        proper(hours >= 0 && hours <= 48);
        int sum = 0;
        for (int k = world.hour; k < world.hour + hours; k++) {
            for (Fall f : told.falls) {
                sum += f.hour == k % 24 && f.cell == c ? f.flakes : 0;
            }
        }
        return sum;
    }

    private List<Integer> bestRow;
    private int bestMuch;

    private void rows(World t, int at, int left, List<Integer> row) {
        if (left == 0) {
            if (t.flakes[at] > bestMuch) {
                bestMuch = t.flakes[at];
                bestRow = new ArrayList<>(row);
            }
            return;
        }
        for (int n : neighbours(at)) {
            World u = t.copy();
            u.push(at, n);
            List<Integer> longer = new ArrayList<>(row);
            longer.add(n);
            rows(u, n, left - 1, longer);
        }
    }

    int row(int p, int many, int i) {
        personIs(p);
        known(isKind(p, 3));
        proper(many >= 1 && many <= 4);
        proper(told.w * told.h > 1);
        known(i >= -1 && i < many);
        bestMuch = -1;
        rows(world, world.at[p], many, new ArrayList<>());
        return i == -1 ? bestMuch : bestRow.get(i);
    }

    int heir(int p, int hours) {
        personIs(p);
        proper(hours >= 1 && hours <= 24);
        World with = world.copy().hours(hours);
        World without = world.copy();
        without.gone.add(p);
        without.hours(hours);
        int best = 0;
        int who = -1;
        for (int q = 0; q < told.people.size(); q++) {
            int more = without.has(q) - with.has(q);
            if (q != p && more > best) {
                best = more;
                who = q;
            }
        }
        return who;
    }

    int see(int c, int hours, int p) {
        cellIs(c);
        if (seen.size() == 8 || hours < 1 || hours > 24 || p < -1 || p >= told.people.size()) {
            status[2]++;
            return -1;
        }
        seen.add(new int[] {c, hours, p});
        return seen.size();
    }

    private boolean fits(World start) {
        return seen.stream().allMatch(s -> start.copy().hours(s[1]).owner[s[0]] == s[2]);
    }

    private World hatted(int p, int hat) {
        World t = world.copy();
        t.hat[p] = hat;
        return t;
    }

    private List<Integer> guesses() {
        List<Integer> all = new ArrayList<>();
        for (int p = 0; p < told.people.size(); p++) {
            for (int hat = 0; hat < 4; hat++) {
                if (hat != world.hat[p] && fits(hatted(p, hat))) {
                    all.add(10 * p + hat);
                }
            }
        }
        return all;
    }

    int hat(int what) {
        known(what >= 0 && what <= 2);
        List<Integer> all = guesses();
        return what == 0 ? all.size() : what == 1 ? all.isEmpty() ? -1 : all.get(0) : fits(world) ? 1 : 0;
    }

    int look(int what) {
        known(what == 0 || what == 1);
        int best = -1;
        int most = 0;
        List<Integer> all = guesses();
        for (int c = 0; c < told.w * told.h; c++) {
            Set<Integer> owners = new HashSet<>();
            for (int g : all) {
                owners.add(hatted(g / 10, g % 10).hours(6).owner[c]);
            }
            if (owners.size() > most) {
                most = owners.size();
                best = c;
            }
        }
        return what == 0 ? best : most;
    }

    void forget() {
        seen.clear();
    }

    boolean partition() {
        for (int p = 0; p < told.people.size(); p++) {
            for (int n : neighbours(world.at[p])) {
                if (!isKind(p, 2) && from(p, n, 6) > from(p, world.at[p], 6)) {
                    return false;
                }
            }
        }
        return true;
    }

    int game(int p, int q, int c, int what) {
        personIs(p);
        personIs(q);
        cellIs(c);
        known(what == 0 || what == 1);
        proper(p != q && !isKind(p, 2) && !isKind(q, 2));
        int[][][] gain = new int[2][2][];
        for (int a = 0; a < 2; a++) {
            for (int b = 0; b < 2; b++) {
                World t = world.copy();
                t.at[p] = a == 1 ? c : t.at[p];
                t.at[q] = b == 1 ? c : t.at[q];
                t.hours(6);
                gain[a][b] = new int[] {t.has(p), t.has(q)};
            }
        }
        int many = 0;
        int first = -1;
        for (int a = 1; a >= 0; a--) {
            for (int b = 1; b >= 0; b--) {
                if (gain[1 - a][b][0] <= gain[a][b][0] && gain[a][1 - b][1] <= gain[a][b][1]) {
                    many++;
                    first = 10 * a + b;
                }
            }
        }
        return what == 0 ? many : first;
    }

    private int seed;

    private int draw(int n) {
        seed = (int) (seed * 1103515245L + 12345L);
        return (seed >>> 16 & 0x7fff) % n;
    }

    int winter(int start, int n, int what) {
        known(what >= 0 && what <= 2);
        proper(n >= 0 && n <= 60);
        seed = start;
        World t = world.copy();
        for (int k = 0; k < n; k++) {
            int c = draw(told.w * told.h);
            int f = draw(20);
            t.comes(c, f, t.whose(c));
            if (!told.people.isEmpty()) {
                int p = draw(told.people.size());
                if (!isKind(p, 2)) {
                    int to = toward(t.at[p], draw(4));
                    t.at[p] = to < 0 ? t.at[p] : to;
                }
            }
            t.hour++;
        }
        int bare = 0;
        for (int c = 0; c < t.flakes.length; c++) {
            bare += t.flakes[c] > 0 && t.owner[c] < 0 ? 1 : 0;
        }
        int who = -1;
        for (int p = told.people.size() - 1; p >= 0; p--) {
            if (t.has(p) > 0 && (who < 0 || t.has(p) >= t.has(who))) {
                who = p;
            }
        }
        return what == 0 ? Arrays.stream(t.flakes).sum() : what == 1 ? bare : who;
    }

    void image() {
        List<World> worlds = new ArrayList<>();
        acts.forEach(a -> worlds.add(a.copy()));
        image = new Object[] {world.copy(), worlds, new ArrayList<>(seen), status.clone()};
    }

    @SuppressWarnings("unchecked")
    boolean restore() {
        if (image == null) {
            return false;
        }
        world = ((World) image[0]).copy();
        acts = new ArrayDeque<>((List<World>) image[1]);
        seen = new ArrayList<>((List<int[]>) image[2]);
        status = ((int[]) image[3]).clone();
        return true;
    }
}
