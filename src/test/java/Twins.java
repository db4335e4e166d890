import java.util.function.Consumer;
import java.util.function.ToIntFunction;

/**
 * Two objects with the same past, of which one gets a refused call more: behind it both must answer
 * alike, whatever they are asked. So what a refused call must leave as it is has stayed.
 */
final class Twins {
    private static final int NEVER_WRITTEN = 64;

    private final Due due;
    private final String call;
    private final RangeResolver called = new RangeResolver();
    private final RangeResolver spared = new RangeResolver();

    private Twins(Due due, String call, Consumer<RangeResolver> past) {
        this.due = due;
        this.call = call;
        past.accept(called);
        past.accept(spared);
    }

    /** The call is answered so, and changes nothing, not even the tape. */
    static void keepAll(Due due, String call, Consumer<RangeResolver> past, ToIntFunction<RangeResolver> refused, int answer) {
        Twins twins = new Twins(due, call, past);
        due.is(call, answer, refused.applyAsInt(twins.called));
        twins.compare();
    }

    /** The call, for which a text is fed, is answered so, empties the tape, and changes nothing else. */
    static void keepAllButTape(Due due, String call, Consumer<RangeResolver> past, ToIntFunction<RangeResolver> refused, int answer) {
        Twins twins = new Twins(due, call, past);
        twins.spared.order(0);
        twins.called.order(0);
        due.is(call, answer, refused.applyAsInt(twins.called));
        due.is(call + " empties the tape", 0, twins.called.count(3));
        due.is(call + " has no byte left on the tape", -1, twins.called.read(1));
        twins.compare();
    }

    private void compare() {
        comparePage();
        for (int what = 0; what < 32; what++) {
            int asked = what;
            ask("count(" + what + ")", x -> x.count(asked));
        }
        for (int p = 0; p < 4; p++) {
            int asked = p;
            ask("chosen(" + p + ")", x -> x.chosen(asked));
            ask("why(" + p + ")", x -> x.why(asked));
            ask("reason(" + p + ")", x -> x.reason(asked));
        }
        compareTape();
        compareSlots();
        for (int k = 0; k < 4; k++) {
            compareWritten(1, k);
            compareWritten(2, k);
        }
        ask("solutions(1000)", x -> x.solutions(1000));
        ask("resolve(true)", x -> x.resolve(true));
        ask("chosen(0)", x -> x.chosen(0));
        ask("chosen(1)", x -> x.chosen(1));
        ask("count(5)", x -> x.count(5));
    }

    /** Ahead of all that writes: what is written later hides what was written before. */
    private void comparePage() {
        int length = 0;
        while (length < NEVER_WRITTEN && spared.octet(length) != RangeResolver.NONE) {
            length++;
        }
        due.is(call + ", then what was written", Due.page(spared, length), Due.page(called, length));
        due.is(call + ", then its end", -1, called.octet(length));
    }

    private void compareTape() {
        ask("order of the whole tape", x -> x.order(x.count(3)));
        ask("count(3)", x -> x.count(3));
        ask("feed", x -> x.feed(0x312E302E, 0x3020312E, 0x302E312D, 0x30202020, 0x20202020));
        ask("order of what was fed", x -> x.order(20));
    }

    private void compareSlots() {
        for (int k : new int[] {0, 1, 2, 3, 15}) {
            compareWritten(0, k);
        }
        for (int k = 0; k < 4; k++) {
            int asked = k;
            ask("inside(" + k + ", 1)", x -> x.inside(asked, 1));
            ask("holds(1, " + k + ")", x -> x.holds(1, asked));
        }
    }

    private void compareWritten(int what, int k) {
        due.is(call + ", then write(" + what + ", " + k + ")", Due.written(spared, what, k), Due.written(called, what, k));
    }

    private void ask(String next, ToIntFunction<RangeResolver> question) {
        due.is(call + ", then " + next, question.applyAsInt(spared), question.applyAsInt(called));
    }
}
