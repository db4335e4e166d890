import java.util.List;
import java.util.function.Consumer;

/** What objects have been through before a boundary is tried on them. Each leaves a tape of bytes. */
final class Pasts {
    static final String TAPE = "1.0.0 2.0.0         ";
    static final String FULL_TAPE = " ".repeat(1988) + "2.0.0\n1.0.0\n";

    static final List<Consumer<RangeResolver>> ALL = List.of(Pasts::none, Pasts::solved, Pasts::unsolved, Pasts::full);

    private Pasts() {
    }

    static void none(RangeResolver x) {
        expect(0, x.count(3));
    }

    /** Three releases, four constraints, a solution found; slots of no, one and two stretches; a page. */
    static void solved(RangeResolver x) {
        expect(0, Due.read(x, "package a{1.0.0 needs b^1;2.0.0 clash b*;}package b{1.0.0+x;}want a*;want b*;"));
        expect(1, x.resolve(false));
        fill(x);
        expect(9, x.write(1, 2));
        Due.feed(x, TAPE);
    }

    /** Two releases, three constraints, no solution and a reason of two. */
    static void unsolved(RangeResolver x) {
        expect(0, Due.read(x, "package a{1.0.0 needs b*;2.0.0;}package b{}want a=1;want a*;"));
        expect(0, x.resolve(false));
        fill(x);
        expect(17, x.write(2, 0));
        Due.feed(x, TAPE);
    }

    /** A registry that nothing was looked for in, and no byte more that the tape could take. */
    static void full(RangeResolver x) {
        expect(0, Due.read(x, "package a{1.0.0;}want a*;"));
        expect(1, x.write(0, 0));
        Due.feed(x, FULL_TAPE);
    }

    private static void fill(RangeResolver x) {
        expect(0, Due.range(x, 1, "1||3.0.0"));
        expect(0, Due.range(x, 2, "<0"));
        expect(0, Due.range(x, 15, "^0.1"));
    }

    private static void expect(int want, int got) {
        if (want != got) {
            throw new IllegalStateException("a past's call answered " + got + ", not " + want);
        }
    }
}
