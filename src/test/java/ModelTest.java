import java.util.Random;

/** Random runs of calls on the class and on the model, which must answer alike; half of the texts are spoilt. */
final class ModelTest {
    private static final int RUNS = 8000;
    // What calls beyond the 512th answer is free; what follows this one takes at most 60.
    private static final int LATEST_CALL = 450;

    private final Random random;
    private final SnowCanton x = new SnowCanton();
    private final Model m = new Model();
    private final int run;
    private int calls = 0;

    private ModelTest(int run) {
        this.run = run;
        random = new Random(run);
    }

    public static void main(String[] args) {
        int runs = args.length > 0 ? Integer.parseInt(args[0]) : RUNS;
        for (int run = 0; run < runs; run++) {
            new ModelTest(run).play();
        }
        Check.end("ModelTest");
    }

    private int below(int n) {
        return random.nextInt(n);
    }

    private void play() {
        tell();
        while (calls < LATEST_CALL) {
            if (below(40) == 0) {
                tell();
            } else {
                ask();
            }
        }
    }

    private void both(String what, Check.Call due, Check.Call got) {
        calls++;
        Check.is("run " + run + ": " + what, Check.of(due), got);
    }

    private void tell() {
        String text = text();
        if (below(2) == 0) {
            text = spoilt(text);
        }
        for (int at = 0; at < text.length(); at += 20) {
            int a = Check.bytes(text, at);
            int b = Check.bytes(text, at + 4);
            int c = Check.bytes(text, at + 8);
            int d = Check.bytes(text, at + 12);
            int e = Check.bytes(text, at + 16);
            both("feed", () -> m.feed(a, b, c, d, e), () -> x.feed(a, b, c, d, e));
        }
        int n = below(20) == 0 ? below(710) - 5 : Math.min(700, text.length());
        String told = text;
        both("canton(" + n + ") of " + told, () -> m.canton(n), () -> x.canton(n));
        both("fault() of " + told, m::fault, x::fault);
        for (int i = 0; i < 16; i++) {
            int what = i;
            both("count(" + i + ") after " + told, () -> m.count(what), () -> x.count(what));
        }
    }

    private String text() {
        StringBuilder s = new StringBuilder();
        int w = 4;
        int h = 4;
        if (below(3) > 0) {
            w = 1 + below(5);
            h = 1 + below(5);
            s.append("canton ").append(w).append(' ').append(h).append(';');
        }
        int cells = w * h;
        int people = below(9);
        int falls = below(25);
        boolean crowded = below(4) == 0;
        int first = below(3);
        for (int c = 0; c < cells; c++) {
            if (below(3) == 0) {
                s.append("height ").append(c).append(' ').append(below(10)).append(';');
            }
        }
        for (int i = 0; i < people; i++) {
            String[] kinds = {"man", "child", "roof", "plough"};
            s.append(kinds[below(4)]).append(' ').append(below(crowded ? Math.min(2, cells) : cells)).append(' ').append(below(4)).append(";");
        }
        for (int i = 0; i < falls; i++) {
            s.append("fall ").append(below(below(2) == 0 ? 6 : 24)).append(' ').append(below(cells)).append(' ').append(1 + below(99)).append(';');
        }
        if (first > 0) {
            s.append("first ").append(expr(3)).append(';');
        }
        return s.length() > 700 ? text() : s.toString();
    }

    private String expr(int deep) {
        String[] values = {"hat", "far", "kind", "has", "hour", "tall"};
        String[] signs = {"+", "-", "*", "/", "<", "=", " and ", " or "};
        if (deep == 0 || below(5) == 0) {
            return below(3) == 0 ? String.valueOf(below(10) == 0 ? below(10000) : below(5)) : values[below(6)];
        }
        switch (below(6)) {
            case 0: return "(not " + expr(deep - 1) + ")";
            case 1: return "(" + expr(deep - 1) + ")";
            case 2: return "(" + expr(deep - 1) + signs[below(8)] + expr(deep - 1) + ")";
            case 3: return "(" + expr(deep - 1) + ")" + signs[below(4)] + "(" + expr(deep - 1) + ")";
            default: return below(2) == 0 ? "far" + signs[below(4)] + expr(deep - 1) : values[below(6)] + signs[below(4)] + values[below(6)];
        }
    }

    private String spoilt(String text) {
        String[] bits = {"canton", "1", "12345", "99", ";", "(", ")", "not ", "not not not not not not ", "first 1;", "foo", " ",
            "\n", "!", "24", "10000", "and", "or", "(((((", "<", "=", "fall 1 1 1;", "man 0 1;man 0 1;", "height 1 1;", "\u00e9", "A", "0"};
        StringBuilder s = new StringBuilder(text);
        int times = 1 + below(2);
        for (int i = 0; i < times; i++) {
            int at = below(s.length() + 1);
            if (below(3) == 0 && at < s.length()) {
                s.delete(at, Math.min(s.length(), at + 1 + below(4)));
            } else {
                s.insert(at, bits[below(bits.length)]);
            }
        }
        return s.length() > 700 ? s.substring(0, 700) : s.toString();
    }

    private void ask() {
        int p = below(30) == 0 ? below(12) - 2 : below(Math.max(1, m.count(2)));
        int q = below(30) == 0 ? below(12) - 2 : below(Math.max(1, m.count(2)));
        int c = below(30) == 0 ? below(30) - 2 : below(m.count(0) * m.count(1));
        int what = below(30) == 0 ? below(5) - 1 : below(2);
        int h = below(20) == 0 ? below(70) - 5 : below(26);
        act(p, q, c, what, h);
        if (below(3) == 0) {
            acrossCanton();
        }
    }

    private void act(int p, int q, int c, int what, int h) {
        String with = " of " + p + " " + q + " " + c + " " + what + " " + h;
        int way = below(20) == 0 ? below(8) - 2 : below(4);
        int seed = random.nextInt();
        switch (below(25)) {
            case 0: case 1: case 2: both("hours" + with, () -> m.hours(h), () -> x.hours(h)); break;
            case 3: case 4: both("walk" + with, () -> m.walk(p, c), () -> x.walk(p, c)); break;
            case 5: both("wind" + way, () -> m.wind(way), () -> x.wind(way)); break;
            case 6: both("thaw" + with, () -> m.thaw(h), () -> x.thaw(h)); break;
            case 7: case 8: both("push" + with, () -> m.push(p, c), () -> x.push(p, c)); break;
            case 9: both("undo", m::undo, x::undo); break;
            case 10: both("trespass" + with, () -> m.trespass(p, c, what), () -> x.trespass(p, c, what)); break;
            case 11: both("then" + with, () -> m.then(p, h), () -> x.then(p, h)); break;
            case 12: both("stand" + with, () -> m.stand(p, h, what), () -> x.stand(p, h, what)); break;
            case 13: both("covered" + with, () -> m.covered(c), () -> x.covered(c)); break;
            case 14: both("coming" + with, () -> m.coming(c, h), () -> x.coming(c, h)); break;
            case 15: {
                int many = below(10) == 0 ? below(7) - 1 : 1 + below(4);
                int i = below(6) - 2;
                both("row" + p + " " + many + " " + i, () -> m.row(p, many, i), () -> x.row(p, many, i));
                break;
            }
            case 16: both("heir" + with, () -> m.heir(p, h), () -> x.heir(p, h)); break;
            case 17: {
                int in = h;
                World w = new World(p, c, in);
                both("see" + with, () -> m.see(w.c, w.in, w.p), () -> x.see(w.c, w.in, w.p));
                break;
            }
            case 18: case 19: {
                int hat = below(20) == 0 ? 3 : below(3);
                both("hat(" + hat + ")", () -> m.hat(hat), () -> x.hat(hat));
                both("look" + with, () -> m.look(what), () -> x.look(what));
                break;
            }
            case 20: {
                if (below(3) == 0) {
                    calls++;
                    m.forget();
                    x.forget();
                }
                both("partition", () -> m.partition() ? 1 : 0, () -> x.partition() ? 1 : 0);
                break;
            }
            case 21: both("game" + with, () -> m.game(p, q, c, what), () -> x.game(p, q, c, what)); break;
            case 22: both("winter" + with, () -> m.winter(seed, h, what), () -> x.winter(seed, h, what)); break;
            case 23: {
                calls++;
                m.image();
                x.image();
                break;
            }
            default: both("restore", () -> m.restore() ? 1 : 0, () -> x.restore() ? 1 : 0); break;
        }
    }

    /** What is to be seen: mostly what would be so indeed, else few guesses would ever fit. */
    private final class World {
        private final int c;
        private final int in;
        private final int p;

        World(int p, int c, int in) {
            this.c = c;
            this.in = in;
            if (below(8) == 0 || c < 0 || c >= m.count(0) * m.count(1) || in < 1 || in > 24) {
                this.p = below(4) == 0 ? -1 : p;
                return;
            }
            calls++;
            m.image();
            x.image();
            m.hours(in);
            this.p = m.cell(c, 2);
            m.restore();
        }
    }

    private void acrossCanton() {
        for (int i = 0; i < 16; i++) {
            int what = i;
            both("count(" + i + ")", () -> m.count(what), () -> x.count(what));
        }
        for (int i = 0; i < m.count(0) * m.count(1); i++) {
            int c = i;
            int what = below(7);
            both("cell " + c + " " + what, () -> m.cell(c, what), () -> x.cell(c, what));
        }
        for (int i = 0; i < m.count(2); i++) {
            int p = i;
            int what = below(8);
            both("person " + p + " " + what, () -> m.person(p, what), () -> x.person(p, what));
        }
    }
}
