import java.util.function.Consumer;

/** Promises 2 to 5: how many bytes the tape has, and how many of them a call may take. */
public final class BoundaryTapeTest {
    private static final int BLANKS = 0x20202020;
    private static final int LEAST = Integer.MIN_VALUE;
    private static final int GREATEST = Integer.MAX_VALUE;
    private static final Due DUE = new Due();

    /** A call that takes the first n bytes of the tape. */
    private interface Taker {
        int take(RangeResolver x, int n);
    }

    public static void main(String[] args) {
        everyByteHasItsPlace();
        everyValueOfAByte();
        leastAndGreatestInts();
        upToTwoThousandBytes();
        refusedFeedsLeaveTheBytes();
        emptiedTapeHasNoFormerBytes();
        bytesTaken("read", RangeResolver::read, -1);
        bytesTaken("range", (x, n) -> x.range(15, n), -1);
        bytesTaken("order", RangeResolver::order, -2);
        onlyTheFirstBytesAreTaken();
        DUE.end();
    }

    /** Twenty bytes come behind the tape, the highest of each int first. */
    private static void everyByteHasItsPlace() {
        for (int before = 0; before < 2; before++) {
            for (int i = 0; i < 20; i++) {
                RangeResolver x = new RangeResolver();
                for (int k = 0; k < before; k++) {
                    DUE.is("feed of blanks", 20, x.feed(BLANKS, BLANKS, BLANKS, BLANKS, BLANKS));
                }
                int[] ints = {BLANKS, BLANKS, BLANKS, BLANKS, BLANKS};
                ints[i / 4] ^= (' ' ^ ';') << 24 - 8 * (i % 4);
                int bytes = 20 * (before + 1);
                DUE.is("feed of ';' at byte " + i, bytes, x.feed(ints[0], ints[1], ints[2], ints[3], ints[4]));
                DUE.is("its place", 1 + 8 * (bytes - 20 + i), x.range(0, bytes));
            }
        }
    }

    private static void everyValueOfAByte() {
        for (int value = 0; value < 256; value++) {
            RangeResolver x = new RangeResolver();
            boolean range = value == '*' || value >= '0' && value <= '9';
            boolean blank = value == ' ' || value == '\n';
            DUE.is("feed of byte " + value, 20, x.feed(value << 24 | 0x202020, 0, 0, 0, 0));
            DUE.is("range of byte " + value, range ? 0 : blank ? 1 + 8 * 2 : 1, x.range(0, 2));
        }
    }

    private static void leastAndGreatestInts() {
        for (int wild : new int[] {LEAST, LEAST + 1, -1, 0, 1, GREATEST - 1, GREATEST}) {
            for (int i = 0; i < 5; i++) {
                RangeResolver x = new RangeResolver();
                int[] ints = {BLANKS, BLANKS, BLANKS, BLANKS, BLANKS};
                ints[i] = wild;
                DUE.is("feed of " + wild, 20, x.feed(ints[0], ints[1], ints[2], ints[3], ints[4]));
                DUE.is("the place of its first byte", 1 + 8 * 4 * i, x.range(0, 20));
            }
            RangeResolver x = new RangeResolver();
            DUE.is("feed of five times " + wild, 20, x.feed(wild, wild, wild, wild, wild));
            DUE.is("count(3)", 20, x.count(3));
        }
    }

    /** How many it has; NONE if that would be more than 2,000. */
    private static void upToTwoThousandBytes() {
        RangeResolver x = new RangeResolver();
        for (int bytes = 20; bytes <= 2000; bytes += 20) {
            DUE.is("feed", bytes, x.feed(BLANKS, BLANKS, BLANKS, BLANKS, BLANKS));
            DUE.is("count(3)", bytes, x.count(3));
        }
        for (int wild : new int[] {LEAST, -1, 0, BLANKS, GREATEST}) {
            DUE.is("feed to a full tape", -1, x.feed(wild, wild, wild, wild, wild));
            DUE.is("count(3)", 2000, x.count(3));
        }
        DUE.is("the full tape is read", 0, x.read(2000));
        DUE.is("feed to an empty tape", 20, x.feed(BLANKS, BLANKS, BLANKS, BLANKS, BLANKS));
    }

    private static void refusedFeedsLeaveTheBytes() {
        for (int wild : new int[] {LEAST, -1, 0, 0x3B3B3B3B, GREATEST}) {
            Twins.keepAll(DUE, "feed of " + wild, Pasts::full, x -> x.feed(wild, wild, wild, wild, wild), -1);
        }
        RangeResolver x = new RangeResolver();
        Due.feed(x, Pasts.FULL_TAPE);
        DUE.is("feed to a full tape", -1, x.feed(0x3B3B3B3B, 0x3B3B3B3B, 0x3B3B3B3B, 0x3B3B3B3B, 0x3B3B3B3B));
        DUE.is("its first and last bytes are the former ones", 1, x.order(2000));
        Due.feed(x, Pasts.FULL_TAPE.substring(20));
        DUE.is("one step below: a feed is taken", 2000, x.feed(0x3B202020, BLANKS, BLANKS, BLANKS, BLANKS));
        DUE.is("behind the others", 2, x.order(2000));
    }

    private static void emptiedTapeHasNoFormerBytes() {
        for (int n : new int[] {0, 1, 12, 2000}) {
            RangeResolver x = new RangeResolver();
            Due.feed(x, "*".repeat(2000));
            x.order(n);
            DUE.is("empty behind order(" + n + ")", 0, x.count(3));
            DUE.is("no byte of it is left", -1, x.range(0, 1));
            Due.feed(x, " ".repeat(20));
            DUE.is("no byte of it is left behind the new ones", -1, x.range(0, 21));
            DUE.is("the new ones stand ahead", 1 + 8 * 20, x.range(0, 20));
        }
    }

    /** n from 0 to the tape's length is taken, and the tape is empty then; another n is refused, and the tape stays. */
    private static void bytesTaken(String name, Taker taker, int refused) {
        for (int bytes : new int[] {0, 20, 40, 1980, 2000}) {
            for (int n : new int[] {0, 1, bytes - 1, bytes}) {
                if (n >= 0 && n <= bytes) {
                    RangeResolver x = withBlanks(bytes);
                    int due = name.equals("read") ? 0 : name.equals("range") ? 1 + 8 * n : 2;
                    DUE.is(name + "(" + n + ") of " + bytes + " blanks", due, taker.take(x, n));
                    DUE.is("the tape is empty", 0, x.count(3));
                    DUE.is("the same again", n == 0 ? due : refused, taker.take(x, n));
                }
            }
            for (int n : new int[] {LEAST, LEAST + 1, -2, -1, bytes + 1, bytes + 2, GREATEST - 1, GREATEST}) {
                RangeResolver x = withBlanks(bytes);
                DUE.is(name + "(" + n + ") of " + bytes + " blanks", refused, taker.take(x, n));
                DUE.is("the tape stays", bytes, x.count(3));
            }
        }
        refusedTakersLeaveAll(name, taker, refused, Pasts::none, 0);
        refusedTakersLeaveAll(name, taker, refused, Pasts::solved, 20);
        refusedTakersLeaveAll(name, taker, refused, Pasts::unsolved, 20);
        refusedTakersLeaveAll(name, taker, refused, Pasts::full, 2000);
    }

    private static void refusedTakersLeaveAll(String name, Taker taker, int refused, Consumer<RangeResolver> past, int bytes) {
        for (int n : new int[] {LEAST, -1, bytes + 1, GREATEST}) {
            Twins.keepAll(DUE, name + "(" + n + ")", past, x -> taker.take(x, n), refused);
        }
    }

    private static void onlyTheFirstBytesAreTaken() {
        RangeResolver x = new RangeResolver();
        String text = "package a{1.0.0;}want a*;want";
        Due.feed(x, text);
        DUE.is("read up to the last want", 0, x.read(text.length() - 4));
        DUE.is("constraints", 1, x.count(2));
        Due.feed(x, text);
        DUE.is("read one byte more", 1 + 8 * (text.length() - 4), x.read(text.length() - 3));
        Due.feed(x, text);
        DUE.is("read one byte less", 1 + 8 * (text.length() - 5), x.read(text.length() - 5));
        Due.feed(x, "1.0.0-a.0 1.0.0-a.01");
        DUE.is("order up to the last byte but one", 0, x.order(19));
        Due.feed(x, "1.0.0-a.0 1.0.0-a.01");
        DUE.is("order of all", 2, x.order(20));
        Due.feed(x, "1.2.3-a.b.c.d.e     ");
        DUE.is("range up to four identifiers", 0, x.range(0, 13));
        Due.feed(x, "1.2.3-a.b.c.d.e     ");
        DUE.is("range, a byte more", 1, x.range(0, 14));
    }

    private static RangeResolver withBlanks(int bytes) {
        RangeResolver x = new RangeResolver();
        Due.feed(x, " ".repeat(bytes));
        return x;
    }
}
