/**
 * Texts with one byte left out, one of the 256 in place of another, or one of them more: what blanks may
 * stand between, what makes a TOKEN longer or none, and the place of each FAULT, held against Mirror.
 */
public final class EveryByteTest {
    private static final String REGISTRY = "package aa{1.0.0-a.1+b needs b>=1.2<2||=3;0.9.0;}package b{1.2.0;3.0.0 clash aa*;}want aa^1;want b~1.2.x;";
    private static final String RANGE = " 1.x >=1.0.3-0.a <=1.9||^0.2\n~3.1.0+b || * <0";
    private static final String ORDER = "\n1.10.0-a.1+b 1.10.0-a.-\n";
    private static final Due DUE = new Due();

    /** A text, and what is asked behind it. */
    private interface Question {
        void ask(String text);
    }

    public static void main(String[] args) {
        change(REGISTRY, EveryByteTest::askRegistry);
        change(RANGE, EveryByteTest::askRange);
        change(ORDER, EveryByteTest::askOrder);
        DUE.end();
    }

    private static void change(String text, Question question) {
        question.ask(text);
        for (int at = 0; at <= text.length(); at++) {
            String ahead = text.substring(0, at);
            String behind = text.substring(Math.min(at + 1, text.length()));
            question.ask(ahead + behind);
            for (char sign = 0; sign < 256; sign++) {
                question.ask(ahead + sign + behind);
                question.ask(ahead + sign + text.substring(at));
            }
        }
    }

    private static void askRegistry(String text) {
        RangeResolver x = new RangeResolver();
        Mirror mirror = new Mirror();
        Due.feed(x, text);
        feed(mirror, text);
        int due = mirror.call("read", text.length());
        DUE.is("read of \"" + text + "\"", due, x.read(text.length()));
        if (due == 0) {
            ask(text, x, mirror, "count", 2);
            ask(text, x, mirror, "resolve", 0);
            for (int i = 0; i < 6; i++) {
                ask(text, x, mirror, "chosen", i);
                ask(text, x, mirror, "reason", i);
                ask(text, x, mirror, "write", 1, i);
                ask(text, x, mirror, "write", 2, i);
            }
        }
    }

    private static void askRange(String text) {
        RangeResolver x = new RangeResolver();
        Mirror mirror = new Mirror();
        Due.feed(x, text);
        feed(mirror, text);
        DUE.is("range of \"" + text + "\"", mirror.call("range", 3, text.length()), x.range(3, text.length()));
        int length = mirror.call("write", 0, 3);
        DUE.is("write of \"" + text + "\"", length, x.write(0, 3));
        for (int i = 0; i <= length; i++) {
            ask(text, x, mirror, "octet", i);
        }
    }

    private static void askOrder(String text) {
        DUE.is("order of \"" + text + "\"", Mirror.orderOf(text), Due.order(new RangeResolver(), text));
    }

    private static void ask(String text, RangeResolver x, Mirror mirror, String name, int... numbers) {
        DUE.is(name + " of \"" + text + "\"", mirror.call(name, numbers), Mirror.call(x, name, numbers));
    }

    private static void feed(Mirror mirror, String text) {
        for (int at = 0; at < text.length(); at += 20) {
            int[] ints = new int[5];
            for (int i = 0; i < 20 && at + i < text.length(); i++) {
                ints[i / 4] |= text.charAt(at + i) << 24 - 8 * (i % 4);
            }
            mirror.call("feed", ints);
        }
    }
}
