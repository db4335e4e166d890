import java.util.Random;

/** Wild arguments in any state: nothing is thrown, and the same calls give the same answers. */
public final class WildCallsTest {
    private static final int[] EDGES = {-2, -1, 0, 1, 2, 3, 4, 5, 6, 15, 16, 17, 19, 20, 31, 32, 60, 250, 999, 1000, 1001,
        1999, 2000, 2001, Integer.MAX_VALUE, Integer.MIN_VALUE, Integer.MAX_VALUE - 15, Integer.MIN_VALUE + 16};
    private static final String TEXT = "package a{1.0.0 needs b^1||2 clash c*;2.0.0-a.1+x needs c>=1.0.0 <2;}"
        + "package b{1.1.0;2.0.0 clash a*;}package c{1.0.0;0.1.0 needs a*;}want a*;want b<2;";

    public static void main(String[] args) {
        Due due = new Due();
        for (int seed = 0; seed < 300; seed++) {
            Random random = new Random(seed);
            Random again = new Random(seed);
            RangeResolver x = new RangeResolver();
            RangeResolver y = new RangeResolver();
            for (int call = 0; call < 512; call++) {
                due.is("call " + call + " of seed " + seed, call(x, random), call(y, again));
            }
        }
        due.end();
    }

    private static int call(RangeResolver x, Random random) {
        switch (random.nextInt(18)) {
            case 0: return x.feed(random.nextInt(), wild(random), 0x2A202A20, 0x7C7C3120, wild(random));
            case 1: return x.read(wild(random));
            case 2: return x.range(wild(random), wild(random));
            case 3: return x.order(wild(random));
            case 4: return x.combine(random.nextInt(4), wild(random), wild(random), wild(random));
            case 5: return x.inside(wild(random), wild(random));
            case 6: return x.holds(wild(random), wild(random));
            case 7: return x.write(random.nextInt(4), wild(random));
            case 8: return x.octet(wild(random));
            case 9: return x.resolve(random.nextBoolean());
            case 10: return x.chosen(wild(random));
            case 11: return x.reason(wild(random));
            case 12: return x.solutions(wild(random));
            case 13: return x.why(wild(random));
            case 14: return x.count(wild(random));
            case 15: return x.read(x.count(3));
            default: return readSpoilt(x, random);
        }
    }

    private static int readSpoilt(RangeResolver x, Random random) {
        int sum = x.order(0);
        String text = random.nextInt(3) == 0 ? MadeUpRangesTest.range(random) : TEXT;
        for (int k = random.nextInt(3); k > 0; k--) {
            text = MadeUpRangesTest.spoilt(random, text);
        }
        int n = text.length() <= 2000 ? Due.feed(x, text) : 0;
        return sum + (random.nextInt(3) == 0 ? x.range(random.nextInt(16), n) : x.read(n));
    }

    private static int wild(Random random) {
        return random.nextInt(3) == 0 ? random.nextInt(20) : EDGES[random.nextInt(EDGES.length)];
    }
}
