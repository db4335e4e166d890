public final class Promise05OrderTest {
    private static final Due DUE = new Due();

    public static void main(String[] args) {
        String[] rising = {"0.0.0-0", "0.0.0-0.0", "0.0.0", "0.0.1", "0.1.0", "1.0.0--", "1.0.0--0", "1.0.0-0a", "1.0.0-1a",
            "1.0.0-A", "1.0.0-Z", "1.0.0-a", "1.0.0-a.0", "1.0.0-a.0.0.0", "1.0.0-a.2", "1.0.0-a.10", "1.0.0-a.99999999", "1.0.0-a.-",
            "1.0.0-a.a", "1.0.0-a-", "1.0.0-aa", "1.0.0-zzzzzzz", "1.0.0-zzzzzzzz", "1.0.0", "1.0.1-0", "1.0.9", "1.0.10",
            "1.2.0", "1.10.0", "2.0.0-a", "2.0.0", "10.0.0", "999999999.999999999.999999999"};
        for (int i = 0; i < rising.length; i++) {
            for (int j = 0; j < rising.length; j++) {
                is(rising[i] + " " + rising[j], Integer.compare(i, j));
                is(rising[i] + "+1 " + rising[j] + "+a.01", Integer.compare(i, j));
            }
        }
        is("1.0.0-1 1.0.0--", -1);
        is("1.0.0\n1.0.0+x", 0);
        for (String blanks : new String[] {" ", "\n", "  ", "\n ", " \n\n  "}) {
            is(blanks + "1.0.0 2.0.0", -1);
            is("1.0.0 2.0.0" + blanks, -1);
            is("2.0.0" + blanks + "1.0.0", 1);
            is(blanks + "1.0.0-a+b" + blanks + "1.0.0-a" + blanks, 0);
            is(blanks, 2);
            is(blanks + "1.0.0" + blanks, 2);
            is(blanks + "1.0.0" + blanks + "2.0.0" + blanks + "3.0.0", 2);
            is(blanks + "1.0.0" + blanks + "2.0.0" + blanks + ";", 2);
            is(blanks + "1.0.0" + blanks + "2.0" + blanks, 2);
            is(blanks + "1.0.0" + blanks + ".1" + blanks + "2.0.0", 2);
        }
        for (String wrong : new String[] {"", " ", "1.0.0", "1.0.0 ", " 1.0.0", "1.0.01.0.0", "\t1.0.0 1.0.0", "1.0.0 1.0.0\r",
            "1.0.0 1.0.0\u0000", "1.0.0\t1.0.0", "1.0.0 1.0.0 1.0.0", "1.0 1.0.0", "1.0.0 1.x", "=1.0.0 1.0.0", "1.0.0 ^1.0.0", "* *", "1.0.0,1.0.0",
            "1.0.0 1.0.0;", "01.0.0 1.0.0", "1.0.0 1.0.0-01", "1.0.0-a.b.c.d.e 1.0.0", "1.0.0 1.0.0+123456789", "1.0.0-\u00e9 1.0.0"}) {
            is(wrong, 2);
        }
        refusals();
        DUE.end();
    }

    private static void refusals() {
        RangeResolver x = new RangeResolver();
        DUE.is("order(1) of an empty tape", -2, x.order(1));
        DUE.is("order(0)", 2, x.order(0));
        int n = Due.feed(x, "1.0.0 2.0.0");
        DUE.is("order(-1)", -2, x.order(-1));
        DUE.is("order(21)", -2, x.order(21));
        DUE.is("the tape stays", 20, x.count(3));
        DUE.is("order", -1, x.order(n));
        DUE.is("the tape is empty", 0, x.count(3));
        Due.feed(x, "1.0.0 2.0.0");
        DUE.is("too few bytes", 2, x.order(10));
        DUE.is("the tape is empty", 0, x.count(3));
        Due.feed(x, "1.0.0 2.0.0         3.0.0");
        DUE.is("blanks up to n, what is behind n doesn't count", -1, x.order(20));
        Due.feed(x, " ".repeat(1988) + "2.0.0\n1.0.0\n");
        DUE.is("a full tape", 1, x.order(2000));
        Due.feed(x, " ".repeat(2000));
        DUE.is("a full tape of blanks", 2, x.order(2000));
    }

    private static void is(String text, int answer) {
        DUE.is("order of \"" + text + "\"", answer, Due.order(new RangeResolver(), text));
    }
}
