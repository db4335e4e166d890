public final class Promise08HoldsTest {
    private static final Due DUE = new Due();

    public static void main(String[] args) {
        RangeResolver x = Due.withRegistry("package a{1.0.0;1.0.0-a;2.0.0+x;}package b{}package c{0.0.0-0;999999999.0.0;}");
        is(x, "*", 1, 1, 1, 1, 1);
        is(x, "<1 >1", 0, 0, 0, 0, 0);
        is(x, "1", 1, 0, 0, 0, 0);
        is(x, "^1.0.0-0", 1, 1, 0, 0, 0);
        is(x, "2.0.0", 0, 0, 1, 0, 0);
        is(x, "=2.0.0+y", 0, 0, 1, 0, 0);
        is(x, ">1.0.0", 0, 0, 1, 0, 1);
        is(x, "<=1.0.0-a", 0, 1, 0, 1, 0);
        is(x, "<1.0.0-a", 0, 0, 0, 1, 0);
        is(x, ">1.0.0-a", 1, 0, 1, 0, 1);
        is(x, "0.0.0-0||>=3", 0, 0, 0, 1, 1);
        is(x, "1.0.0||1.0.0-a||999999999", 1, 1, 0, 0, 1);
        for (int wrong : new int[] {-1, 16, Integer.MAX_VALUE, Integer.MIN_VALUE}) {
            DUE.is("holds(" + wrong + ", 0)", -1, x.holds(wrong, 0));
            DUE.is("holds(0, " + wrong + ")", -1, x.holds(0, wrong));
        }
        DUE.is("holds(0, 5)", -1, x.holds(0, 5));
        DUE.is("read", 0, Due.read(x, "package a{1.0.0;}"));
        DUE.is("holds(0, 0)", 1, x.holds(0, 0));
        DUE.is("holds(0, 1)", -1, x.holds(0, 1));
        DUE.end();
    }

    private static void is(RangeResolver x, String range, int... answers) {
        DUE.is("range", 0, Due.range(x, 15, range));
        for (int r = 0; r < answers.length; r++) {
            DUE.is("holds(" + range + ", " + r + ")", answers[r], x.holds(15, r));
        }
    }
}
