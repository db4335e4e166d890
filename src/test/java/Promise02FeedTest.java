public final class Promise02FeedTest {
    public static void main(String[] args) {
        Due due = new Due();
        bytesComeHighestFirst(due);
        tapeHasTwoThousandBytes(due);
        due.end();
    }

    private static void bytesComeHighestFirst(Due due) {
        RangeResolver x = new RangeResolver();
        // "1.2.3 4.5.6" and bytes 0 behind it
        due.is("feed", 20, x.feed(0x312E322E, 0x3320342E, 0x352E3600, 0, 0));
        due.is("order(11)", -1, x.order(11));
        // ints below 0 have a high bit in their first byte, which is no sign of any token
        due.is("feed of -1", 20, x.feed(-1, -1, -1, -1, -1));
        due.is("range of byte 255", 1, x.range(0, 1));
        due.is("feed", 20, x.feed(0x31202020, 0x20202020, 0x20202020, 0x20202020, 0x20202020));
        due.is("feed", 40, x.feed(0x3C202020, 0, 0, 0, 0x34));
        due.is("range, faulty at byte 20", 1 + 8 * 20, x.range(0, 40));
    }

    private static void tapeHasTwoThousandBytes(Due due) {
        RangeResolver x = new RangeResolver();
        for (int i = 1; i <= 100; i++) {
            due.is("feed number " + i, 20 * i, x.feed(0x20202020, 0x20202020, 0x20202020, 0x20202020, 0x20202020));
        }
        due.is("feed of more than 2,000", -1, x.feed(1, 2, 3, 4, 5));
        due.is("count(3)", 2000, x.count(3));
        due.is("read(2000) of blanks", 0, x.read(2000));
        due.is("count(3)", 0, x.count(3));
        due.is("feed behind read", 20, x.feed(0, 0, 0, 0, 0));
    }
}
