import java.nio.charset.StandardCharsets;

/** What the tests share: a resolver, what is due of it, and texts in place of bytes. */
final class Due {
    private int wrong = 0;
    private int calls = 0;

    void is(String call, long want, long got) {
        calls++;
        if (want != got) {
            wrong++;
            System.out.println(call + " answered " + got + ", due is " + want);
        }
    }

    void is(String call, String want, String got) {
        calls++;
        if (!want.equals(got)) {
            wrong++;
            System.out.println(call + " answered \"" + got + "\", due is \"" + want + "\"");
        }
    }

    void end() {
        System.out.println(calls + " answers, " + wrong + " of them not as due");
        if (wrong != 0) {
            System.exit(1);
        }
    }

    /** Feeds the text, filled up by bytes 0; how many bytes the text itself has. */
    static int feed(RangeResolver x, String text) {
        byte[] bytes = text.getBytes(StandardCharsets.ISO_8859_1);
        int[] ints = new int[(bytes.length + 19) / 20 * 5];
        for (int i = 0; i < bytes.length; i++) {
            ints[i / 4] |= (bytes[i] & 255) << 24 - 8 * (i % 4);
        }
        for (int i = 0; i < ints.length; i += 5) {
            if (x.feed(ints[i], ints[i + 1], ints[i + 2], ints[i + 3], ints[i + 4]) == RangeResolver.NONE) {
                throw new IllegalStateException("the tape is too short for the test's text");
            }
        }
        return bytes.length;
    }

    static int read(RangeResolver x, String text) {
        return x.read(feed(x, text));
    }

    static int range(RangeResolver x, int k, String text) {
        return x.range(k, feed(x, text));
    }

    static int order(RangeResolver x, String text) {
        return x.order(feed(x, text));
    }

    /** What write() writes, or "NONE". */
    static String written(RangeResolver x, int what, int k) {
        int length = x.write(what, k);
        return length == RangeResolver.NONE ? "NONE" : page(x, length);
    }

    static String page(RangeResolver x, int length) {
        StringBuilder text = new StringBuilder();
        for (int i = 0; i < length; i++) {
            text.append((char) x.octet(i));
        }
        return text.toString();
    }

    /** The range as slot 15 writes it. */
    static String range(RangeResolver x, String text) {
        int fault = range(x, 15, text);
        return fault == 0 ? written(x, 0, 15) : "fault " + fault % 8 + " at " + fault / 8;
    }

    static RangeResolver withRegistry(String text) {
        RangeResolver x = new RangeResolver();
        int fault = read(x, text);
        if (fault != 0) {
            throw new IllegalStateException("fault " + fault % 8 + " at " + fault / 8 + " of " + text);
        }
        return x;
    }
}
