import java.util.ArrayDeque;
import java.util.Arrays;
import java.util.Deque;
import java.util.HashMap;
import java.util.Map;
import java.util.Random;

/**
 * Runs of 512 calls on one object, as many as it is used for, made up from a fixed seed and held against
 * Mirror call by call. Two objects take turns: all memory is the class's own, so neither sees the other.
 */
public final class MadeUpRunsTest {
    private static final int CALLS = 512;
    private static final int[] WILD = {Integer.MIN_VALUE, Integer.MIN_VALUE + 16, -17, -16, -2, -1, 16, 17, 20, 31, 32, 1000, 1001,
        1999, 2000, 2001, Integer.MAX_VALUE - 16, Integer.MAX_VALUE};
    private static final Due DUE = new Due();
    /** How often each call was answered as if all was well, and how often it was refused. */
    private static final Map<String, Integer> SEEN = new HashMap<>();

    private record Call(String name, int[] numbers) {
        @Override public String toString() {
            return name + Arrays.toString(numbers);
        }
    }

    private final int seed;
    private final Random random;
    private final RangeResolver x = new RangeResolver();
    private final Mirror mirror = new Mirror();
    private final Deque<Call> next = new ArrayDeque<>();

    private MadeUpRunsTest(int seed) {
        this.seed = seed;
        random = new Random(seed);
    }

    public static void main(String[] args) {
        for (int seed = 0; seed < 500; seed += 2) {
            MadeUpRunsTest one = new MadeUpRunsTest(seed);
            MadeUpRunsTest other = new MadeUpRunsTest(seed + 1);
            for (int call = 1; call <= CALLS; call++) {
                one.step(call);
                other.step(call);
            }
        }
        for (String name : Mirror.FACE) {
            DUE.is(name + " was answered often", 1, SEEN.getOrDefault(name, 0) > 200 ? 1 : 0);
            if (!name.equals("resolve")) {
                DUE.is(name + " was refused often", 1, SEEN.getOrDefault(name + " NONE", 0) > 50 ? 1 : 0);
            }
        }
        DUE.is("resolve found solutions often", 1, SEEN.getOrDefault("resolve 1", 0) > 500 ? 1 : 0);
        DUE.is("resolve found reasons often", 1, SEEN.getOrDefault("resolve 0", 0) > 500 ? 1 : 0);
        DUE.is("registries were read often", 1, SEEN.getOrDefault("read 0", 0) > 500 ? 1 : 0);
        DUE.end();
    }

    private void step(int number) {
        if (next.isEmpty()) {
            plan();
        }
        Call call = next.remove();
        int due = mirror.call(call.name, call.numbers);
        DUE.is("call " + number + " of run " + seed + ", " + call + ",", due, Mirror.call(x, call.name, call.numbers));
        boolean refused = due == (call.name.equals("order") ? -2 : -1);
        SEEN.merge(call.name + (refused ? " NONE" : ""), 1, Integer::sum);
        SEEN.merge(call.name + " " + due, 1, Integer::sum);
    }

    /** What is to come next: one call, or a text and what takes it. */
    private void plan() {
        switch (random.nextInt(10)) {
            case 0:
                planText(spoiltAtTimes(MadeUpRegistriesTest.registry(random)), "read");
                break;
            case 1:
                planText(spoiltAtTimes(MadeUpRangesTest.range(random)), "range");
                break;
            case 2:
                planText(spoiltAtTimes(MadeUpRangesTest.version(random) + " " + MadeUpRangesTest.version(random)), "order");
                break;
            case 3:
                planPage();
                break;
            case 4:
                planFinding();
                break;
            case 5:
                planFeeds();
                break;
            default:
                planAny(Mirror.FACE[random.nextInt(Mirror.FACE.length)]);
        }
    }

    private String spoiltAtTimes(String text) {
        return random.nextInt(4) == 0 ? MadeUpRangesTest.spoilt(random, text) : text;
    }

    /** The text is fed to an empty tape and taken; at times too many bytes, or too few, are asked for. */
    private void planText(String text, String taker) {
        add("order", 0);
        int[] ints = new int[(Math.min(2000, text.length()) + 19) / 20 * 5];
        for (int i = 0; i < text.length() && i < 2000; i++) {
            ints[i / 4] |= text.charAt(i) << 24 - 8 * (i % 4);
        }
        for (int i = 0; i < ints.length; i += 5) {
            add("feed", Arrays.copyOfRange(ints, i, i + 5));
        }
        if (random.nextInt(6) == 0) {
            planTaker(taker, number(), 4 * ints.length + 1);
        }
        int n = random.nextInt(8) == 0 ? random.nextInt(text.length() + 1) : text.length();
        planTaker(taker, random.nextInt(16), Math.min(2000, n));
    }

    private void planTaker(String taker, int slot, int n) {
        if (taker.equals("range")) {
            add("range", slot, n);
        } else {
            add(taker, n);
        }
    }

    private void planPage() {
        add("write", random.nextInt(3), random.nextInt(10));
        for (int i = 0; i < 12; i++) {
            add("octet", i < 4 ? i : random.nextInt(60));
        }
    }

    private void planFinding() {
        add("resolve", random.nextInt(2));
        for (int i = 0; i < 6; i++) {
            add("chosen", i - 1);
            add("why", i - 1);
            add("reason", i - 1);
        }
        add("count", 4);
        add("count", 5);
    }

    /** A tape is seldom filled up by chance, so at times it's done in one go. */
    private void planFeeds() {
        for (int i = random.nextInt(20) == 0 ? 103 : 1 + random.nextInt(3); i > 0; i--) {
            add("feed", random.nextInt(), 0x20312E30, 0x2A0A207C, random.nextInt(), 0x7C323B7D);
        }
    }

    /** Its first number is one that may be, for the most part. */
    private void planAny(String name) {
        int[] numbers = new int[sizeOf(name)];
        for (int i = 0; i < numbers.length; i++) {
            numbers[i] = number();
        }
        if (name.equals("resolve")) {
            numbers[0] = random.nextInt(2);
        } else if (name.equals("solutions") && random.nextInt(4) > 0) {
            numbers[0] = 1 + random.nextInt(1000);
        } else if ((name.equals("combine") || name.equals("write")) && random.nextInt(8) > 0) {
            numbers[0] = random.nextInt(3);
        }
        add(name, numbers);
    }

    private static int sizeOf(String name) {
        switch (name) {
            case "feed": return 5;
            case "combine": return 4;
            case "range": case "inside": case "holds": case "write": return 2;
            default: return 1;
        }
    }

    private int number() {
        return random.nextInt(8) == 0 ? WILD[random.nextInt(WILD.length)] : random.nextInt(random.nextBoolean() ? 4 : 16);
    }

    private void add(String name, int... numbers) {
        next.add(new Call(name, numbers));
    }
}
