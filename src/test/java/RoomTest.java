import java.lang.management.ManagementFactory;

/** All calls of a run live in one room: an object takes little of it, and its calls take none. */
final class RoomTest {
    private static final int CALLS = 400;
    private static final int MOST_BYTES_AN_OBJECT = 60000;
    private static final int MOST_BYTES_A_CALL = 64;

    private RoomTest() {
    }

    private static long made() {
        return ((com.sun.management.ThreadMXBean) ManagementFactory.getThreadMXBean()).getThreadAllocatedBytes(Thread.currentThread().getId());
    }

    public static void main(String[] args) {
        objects();
        calls();
        Check.end("RoomTest");
    }

    private static void objects() {
        SnowCanton first = new SnowCanton();
        long before = made();
        SnowCanton second = new SnowCanton();
        long took = made() - before;
        Check.holds("an object takes " + took, took < MOST_BYTES_AN_OBJECT && first != second);
    }

    private static void calls() {
        StringBuilder text = new StringBuilder("canton 5 5;plough 12 1;plough 3 3;");
        for (int i = 0; i < 6; i++) {
            text.append("child ").append(i * 4).append(" 2;");
        }
        for (int i = 0; i < 24; i++) {
            text.append("fall ").append(i).append(' ').append(i).append(" 99;");
        }
        text.append("first (has*3-far)/(1+hat) or not (tall<hour) and kind=2;");
        SnowCanton x = Check.told(text.toString());
        for (int i = 1; i <= 8; i++) {
            x.see(24, 24, -1);
        }
        round(x, 0);
        long before = made();
        long sum = 0;
        for (int i = 0; i < CALLS; i += 20) {
            sum += round(x, i);
        }
        long took = made() - before;
        Check.holds("calls take " + took + ", sum " + sum, took < (long) CALLS * MOST_BYTES_A_CALL);
    }

    /** Twenty calls. */
    private static long round(SnowCanton x, int i) {
        long sum = x.count(8) + x.cell(24, 5) + x.person(2, 7) + x.hours(1) + x.wind(i & 3) + x.thaw(1) + x.push(0, 11);
        sum += x.undo() + x.trespass(2, 24, 1) + x.then(2, 48) + x.stand(2, 24, 1) + x.covered(24) + x.coming(3, 48);
        sum += x.row(0, 4, -1) + x.heir(2, 24) + x.hat(0) + x.look(1) + x.game(2, 3, 24, 0) + x.winter(i, 60, 2);
        x.image();
        return sum + (x.restore() ? 1 : 0) + (x.partition() ? 1 : 0);
    }
}
