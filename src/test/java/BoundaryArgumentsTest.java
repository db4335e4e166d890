import java.util.function.Consumer;
import java.util.function.ToIntFunction;

/**
 * Promises 4 and 6 to 16: each number that a call takes, at the ends of what is answered, one step inside
 * and one step outside them, and the least and the greatest int. A refused call changes nothing.
 */
public final class BoundaryArgumentsTest {
    private static final int NONE = RangeResolver.NONE;
    private static final Due DUE = new Due();

    /** A call that takes the number. */
    private interface Call {
        int with(RangeResolver x, int number);
    }

    public static void main(String[] args) {
        slotOfRange();
        slotsAndHowOfCombine();
        slotsOfInside();
        slotAndReleaseOfHolds();
        whatAndNumberOfWrite();
        placeOfOctet();
        packageOfChosenAndWhy();
        numberOfReason();
        mostOfSolutions();
        whatOfCount();
        slotsOfANewObject();
        registryWithoutAny();
        severalWrongNumbers();
        DUE.end();
    }

    private static void slotOfRange() {
        answered("range(#, 5)", Pasts::solved, (x, k) -> x.range(k, 5), 0, 15);
        for (int k : new int[] {0, 1, 14, 15}) {
            RangeResolver x = new RangeResolver();
            DUE.is("range(" + k + ", ..)", 0, Due.range(x, k, "1.2.3"));
            for (int other = 0; other < 16; other++) {
                DUE.is("slot " + other, other == k ? "=1.2.3" : "*", Due.written(x, 0, other));
            }
        }
    }

    private static void slotsAndHowOfCombine() {
        answered("combine(#, 1, 15, 3)", Pasts::solved, (x, how) -> x.combine(how, 1, 15, 3), 0, 2);
        answered("combine(1, #, 1, 3)", Pasts::solved, (x, a) -> x.combine(1, a, 1, 3), 0, 15);
        answered("combine(2, 1, #, 3)", Pasts::solved, (x, b) -> x.combine(2, 1, b, 3), 0, 15);
        answered("combine(0, 0, 1, #)", Pasts::solved, (x, c) -> x.combine(0, 0, 1, c), 0, 15);
        for (int c : new int[] {0, 1, 14, 15}) {
            RangeResolver x = new RangeResolver();
            DUE.is("combine(2, 3, 3, " + c + ")", 0, x.combine(2, 3, 3, c));
            for (int other = 0; other < 16; other++) {
                DUE.is("stretches of slot " + other, other == c ? 0 : 1, x.count(16 + other));
            }
        }
        Consumer<RangeResolver> past = x -> {
            Pasts.solved(x);
            x.order(0);
            Due.range(x, 5, versions(0));
            Due.range(x, 6, versions(1));
            Due.feed(x, Pasts.TAPE);
        };
        for (int c : new int[] {0, 1, 3, 15}) {
            Twins.keepAll(DUE, "combine to 32 stretches in slot " + c, past, x -> x.combine(1, 5, 6, c), NONE);
            Twins.keepAll(DUE, "combine to 17 stretches in slot " + c, past, x -> x.combine(2, 0, 5, c), NONE);
        }
    }

    private static void slotsOfInside() {
        answered("inside(#, 1)", Pasts::solved, (x, a) -> x.inside(a, 1), 0, 15);
        answered("inside(1, #)", Pasts::unsolved, (x, b) -> x.inside(1, b), 0, 15);
        keeps("inside(1, 15)", Pasts::solved, x -> x.inside(1, 15));
    }

    private static void slotAndReleaseOfHolds() {
        answered("holds(#, 0)", Pasts::solved, (x, k) -> x.holds(k, 0), 0, 15);
        answered("holds(1, #)", Pasts::solved, (x, r) -> x.holds(1, r), 0, 2);
        answered("holds(15, #)", Pasts::unsolved, (x, r) -> x.holds(15, r), 0, 1);
        answered("holds(0, #) of sixty", BoundaryArgumentsTest::largest, (x, r) -> x.holds(0, r), 0, 59);
        keeps("holds(1, 1)", Pasts::solved, x -> x.holds(1, 1));
    }

    private static void whatAndNumberOfWrite() {
        answered("write(#, 0)", Pasts::solved, (x, what) -> x.write(what, 0), 0, 2);
        answered("write(#, 2)", Pasts::solved, (x, what) -> x.write(what, 2), 0, 2);
        answered("write(0, #)", Pasts::solved, (x, k) -> x.write(0, k), 0, 15);
        answered("write(1, #)", Pasts::solved, (x, r) -> x.write(1, r), 0, 2);
        answered("write(2, #)", Pasts::solved, (x, c) -> x.write(2, c), 0, 3);
        answered("write(1, #) of sixty", BoundaryArgumentsTest::largest, (x, r) -> x.write(1, r), 0, 59);
        answered("write(2, #) of ten", BoundaryArgumentsTest::largest, (x, c) -> x.write(2, c), 0, 9);
        for (int what : new int[] {Integer.MIN_VALUE, -1, 3, Integer.MAX_VALUE}) {
            for (int k : new int[] {Integer.MIN_VALUE, -1, 0, 2, 15, 16, Integer.MAX_VALUE}) {
                Twins.keepAll(DUE, "write(" + what + ", " + k + ")", Pasts::solved, x -> x.write(what, k), NONE);
            }
        }
    }

    /** Byte i of what was written; NONE if there is none. */
    private static void placeOfOctet() {
        answered("octet(#) of nine", Pasts::solved, RangeResolver::octet, 0, 8);
        answered("octet(#) of seventeen", Pasts::unsolved, RangeResolver::octet, 0, 16);
        answered("octet(#) of one", Pasts::full, RangeResolver::octet, 0, 0);
        refused("octet(#), nothing written", Pasts::none, RangeResolver::octet, 0);
        refused("octet(#), nothing written", Pasts::none, RangeResolver::octet, 1);
        RangeResolver x = new RangeResolver();
        Pasts.solved(x);
        DUE.is("a shorter one", 1, x.write(0, 0));
        DUE.is("its byte", '*', x.octet(0));
        DUE.is("no byte of the longer one", NONE, x.octet(1));
        longestPage();
    }

    /** The longest that can be written: sixteen stretches between the longest bounds. */
    private static void longestPage() {
        RangeResolver x = new RangeResolver();
        StringBuilder written = new StringBuilder();
        DUE.is("none", 0, x.combine(2, 0, 0, 0));
        for (int i = 0; i < 16; i++) {
            String v = "9999999" + (10 + i) + ".999999999.999999999-zzzzzzz#.zzzzzzzz.zzzzzzzz.zzzzzzzz";
            DUE.is("range", 0, Due.range(x, 1, ">" + v.replace('#', 'a') + " <=" + v.replace('#', 'b')));
            DUE.is("combine", i + 1, x.combine(1, 0, 1, 0));
            written.append(i == 0 ? "" : " || ").append(">=" + v.replace('#', 'a') + ".0 <" + v.replace('#', 'b') + ".0");
        }
        int length = written.length();
        DUE.is("write(0, 0)", length, x.write(0, 0));
        for (int i : new int[] {0, 1, 1999, 2000, 2001, length - 2, length - 1}) {
            DUE.is("octet(" + i + ")", written.charAt(i), x.octet(i));
        }
        for (int i : new int[] {-1, length, length + 1, Integer.MIN_VALUE, Integer.MAX_VALUE}) {
            DUE.is("octet(" + i + ")", NONE, x.octet(i));
        }
    }

    private static void packageOfChosenAndWhy() {
        answered("chosen(#)", Pasts::solved, RangeResolver::chosen, 0, 1);
        answered("why(#)", Pasts::solved, RangeResolver::why, 0, 1);
        answered("chosen(#) of ten", BoundaryArgumentsTest::largest, RangeResolver::chosen, 0, 9);
        answered("why(#) of ten", BoundaryArgumentsTest::largest, RangeResolver::why, 0, 9);
        for (int p : new int[] {0, 1}) {
            refused("chosen(#), no solution", Pasts::unsolved, RangeResolver::chosen, p);
            refused("why(#), no solution", Pasts::unsolved, RangeResolver::why, p);
            refused("chosen(#), nothing found", Pasts::full, RangeResolver::chosen, p);
            refused("why(#), nothing found", Pasts::full, RangeResolver::why, p);
        }
        keeps("chosen(0)", Pasts::solved, x -> x.chosen(0));
        keeps("why(1)", Pasts::solved, x -> x.why(1));
    }

    private static void numberOfReason() {
        answered("reason(#)", Pasts::unsolved, RangeResolver::reason, 0, 1);
        for (int i : new int[] {0, 1}) {
            refused("reason(#), there is a solution", Pasts::solved, RangeResolver::reason, i);
            refused("reason(#), nothing found", Pasts::full, RangeResolver::reason, i);
        }
        keeps("reason(1)", Pasts::unsolved, x -> x.reason(1));
    }

    private static void mostOfSolutions() {
        answered("solutions(#)", Pasts::solved, RangeResolver::solutions, 1, 1000);
        answered("solutions(#)", Pasts::unsolved, RangeResolver::solutions, 1, 1000);
        answered("solutions(#)", Pasts::none, RangeResolver::solutions, 1, 1000);
        keeps("solutions(1000)", Pasts::solved, x -> x.solutions(1000));
        keeps("solutions(1)", Pasts::unsolved, x -> x.solutions(1));
    }

    private static void whatOfCount() {
        answered("count(#)", Pasts::solved, RangeResolver::count, 0, 5);
        answered("count(#)", Pasts::solved, RangeResolver::count, 16, 31);
        for (int what = 6; what < 16; what++) {
            refused("count(#)", Pasts::unsolved, RangeResolver::count, what);
        }
        // so that no slot is taken for one where 16 is taken from it or added to it
        for (int what : new int[] {-32, -17, -16, 47, 48, Integer.MIN_VALUE + 15, Integer.MIN_VALUE + 16, Integer.MIN_VALUE + 31,
            Integer.MAX_VALUE - 15, Integer.MAX_VALUE - 16}) {
            refused("count(#)", Pasts::solved, RangeResolver::count, what);
        }
        RangeResolver x = new RangeResolver();
        largest(x);
        int[] due = {10, 60, 10, 0, 10, 0};
        for (int what = 0; what < due.length; what++) {
            DUE.is("count(" + what + ")", due[what], x.count(what));
        }
    }

    /** No PACKAGE, no RELEASE, no CONSTRAINT: no number of one is answered. */
    private static void registryWithoutAny() {
        for (int k : new int[] {0, 1, 15}) {
            refused("write(1, #)", Pasts::none, (x, r) -> x.write(1, r), k);
            refused("write(2, #)", Pasts::none, (x, c) -> x.write(2, c), k);
            refused("holds(0, #)", Pasts::none, (x, r) -> x.holds(0, r), k);
            refused("chosen(#)", Pasts::none, RangeResolver::chosen, k);
            refused("reason(#)", Pasts::none, RangeResolver::reason, k);
            refused("why(#)", Pasts::none, RangeResolver::why, k);
        }
    }

    /** Sixteen slots whose RANGES are *, not fifteen, not seventeen. */
    private static void slotsOfANewObject() {
        answered("write(0, #)", Pasts::none, (x, k) -> x.write(0, k), 0, 15);
        answered("count(#)", Pasts::none, RangeResolver::count, 16, 31);
        answered("inside(#, 0)", Pasts::none, (x, a) -> x.inside(a, 0), 0, 15);
        answered("combine(0, 0, 0, #)", Pasts::none, (x, c) -> x.combine(0, 0, 0, c), 0, 15);
        RangeResolver x = new RangeResolver();
        for (int k = 0; k < 16; k++) {
            DUE.is("slot " + k, "*", Due.written(x, 0, k));
            DUE.is("stretches of slot " + k, 1, x.count(16 + k));
        }
        for (int what = 0; what < 6; what++) {
            DUE.is("count(" + what + ")", 0, x.count(what));
        }
    }

    private static void severalWrongNumbers() {
        int[] wild = {Integer.MIN_VALUE, -1, 16, Integer.MAX_VALUE};
        for (int a : wild) {
            for (int b : wild) {
                Twins.keepAll(DUE, "combine(0, " + a + ", " + b + ", 0)", Pasts::solved, x -> x.combine(0, a, b, 0), NONE);
                Twins.keepAll(DUE, "combine(" + a + ", 0, 1, " + b + ")", Pasts::solved, x -> x.combine(a, 0, 1, b), NONE);
                Twins.keepAll(DUE, "inside(" + a + ", " + b + ")", Pasts::solved, x -> x.inside(a, b), NONE);
                Twins.keepAll(DUE, "holds(" + a + ", " + b + ")", Pasts::solved, x -> x.holds(a, b), NONE);
                int n = b == 16 ? 21 : b;
                Twins.keepAll(DUE, "range(" + a + ", " + n + ")", Pasts::solved, x -> x.range(a, n), NONE);
            }
        }
    }

    /** Ten packages of six releases, each wanted, and the solution found. */
    private static void largest(RangeResolver x) {
        StringBuilder text = new StringBuilder();
        for (int p = 0; p < 10; p++) {
            text.append("package ").append((char) ('a' + p)).append("{0.0.0;1.0.0;2.0.0;3.0.0;4.0.0;5.0.0;}");
        }
        for (int p = 0; p < 10; p++) {
            text.append("want ").append((char) ('a' + p)).append("*;");
        }
        DUE.is("read", 0, Due.read(x, text.toString()));
        DUE.is("resolve", 1, x.resolve(false));
    }

    /** Sixteen versions, two steps from one to the next. */
    private static String versions(int from) {
        StringBuilder text = new StringBuilder();
        for (int i = 0; i < 16; i++) {
            text.append(i == 0 ? "" : "||").append(from + 2 * i).append(".1.1");
        }
        return text.toString();
    }

    /** From low to high the call isn't refused; outside of these it is, and all stays. */
    private static void answered(String call, Consumer<RangeResolver> past, Call with, int low, int high) {
        for (int number : new int[] {low, Math.min(low + 1, high), (low + high) / 2, Math.max(high - 1, low), high}) {
            RangeResolver x = new RangeResolver();
            past.accept(x);
            DUE.is(call.replace("#", "" + number) + " is answered", 1, with.with(x, number) == NONE ? 0 : 1);
        }
        for (int number : new int[] {Integer.MIN_VALUE, Integer.MIN_VALUE + 1, low - 1, high + 1, Integer.MAX_VALUE - 1, Integer.MAX_VALUE}) {
            refused(call, past, with, number);
        }
    }

    private static void refused(String call, Consumer<RangeResolver> past, Call with, int number) {
        Twins.keepAll(DUE, call.replace("#", "" + number), past, x -> with.with(x, number), NONE);
    }

    /** A call that only tells: it changes nothing, though it isn't refused. */
    private static void keeps(String call, Consumer<RangeResolver> past, ToIntFunction<RangeResolver> telling) {
        RangeResolver x = new RangeResolver();
        past.accept(x);
        Twins.keepAll(DUE, call, past, telling, telling.applyAsInt(x));
    }
}
