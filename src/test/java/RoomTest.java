import java.lang.management.ManagementFactory;

/** All calls of a run live in one room: a new object is small, and no call makes objects. */
public final class RoomTest {
    private static final String REGISTRY = "package a{1.0.0 needs b^1||2 clash c*;2.0.0-a.1+x needs c>=1.0.0 <2;}"
        + "package b{1.1.0;2.0.0 clash a*;}package c{1.0.0;0.1.0 needs a*;}want a*;want b<2;";

    public static void main(String[] args) {
        Due due = new Due();
        run(new RangeResolver());
        long before = allocated();
        RangeResolver x = new RangeResolver();
        long made = allocated();
        // 8 bytes for each of 40,000 fields and elements, of which most are smaller
        due.is("a new object is small", 1, made - before < 8 * 40_000 ? 1 : 0);
        int[] fed = ints(REGISTRY);
        before = allocated();
        for (int round = 0; round < 20; round++) {
            feed(x, fed);
            x.read(REGISTRY.length());
            run(x);
        }
        due.is("calls make no objects", 1, allocated() - before < 4_000 ? 1 : 0);
        due.end();
    }

    private static void run(RangeResolver x) {
        x.resolve(false);
        x.resolve(true);
        x.solutions(1000);
        for (int k = 0; k < 10; k++) {
            x.write(k % 3, k / 3);
            x.octet(k);
            x.chosen(k);
            x.reason(k);
            x.why(k);
            x.count(k);
            x.holds(k, k);
            x.combine(k % 3, k, 1, 2);
            x.inside(k, 2);
        }
        x.feed(0x3C312E32, 0x2E332020, 0x7C7C2020, 0x20202034, 0x20202020);
        x.range(1, 20);
        x.feed(0x312E322E, 0x3320312E, 0x322E3400, 0, 0);
        x.order(11);
    }

    private static int[] ints(String text) {
        int[] ints = new int[(text.length() + 19) / 20 * 5];
        for (int i = 0; i < text.length(); i++) {
            ints[i / 4] |= text.charAt(i) << 24 - 8 * (i % 4);
        }
        return ints;
    }

    private static void feed(RangeResolver x, int[] ints) {
        for (int i = 0; i < ints.length; i += 5) {
            x.feed(ints[i], ints[i + 1], ints[i + 2], ints[i + 3], ints[i + 4]);
        }
    }

    private static long allocated() {
        return ((com.sun.management.ThreadMXBean) ManagementFactory.getThreadMXBean()).getCurrentThreadAllocatedBytes();
    }
}
