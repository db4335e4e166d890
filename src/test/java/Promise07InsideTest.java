public final class Promise07InsideTest {
    private static final Due DUE = new Due();

    public static void main(String[] args) {
        is("1.2.3", "1", 1);
        is("1", "1.2.3", 0);
        is("1", "1", 1);
        is("*", "<1||>=1.0.0-0", 1);
        is("*", "<1||>=1.0.0", 0);
        is("<1 >1", "2.0.0", 1);
        is("<1 >1", "<1 >1", 1);
        is("2.0.0", "<1 >1", 0);
        is("1||3", "1||2||3", 1);
        is("1||2||3", "1||3", 0);
        is("<=1.0.0-a", "<1.0.0-a.0", 1);
        is(">1.0.0", ">=1.0.1-0", 1);
        is(">=1.0.1-0", ">1.0.0", 1);
        is(">=1.0.0", ">1.0.0", 0);
        is("^1.2", "1", 1);
        is("=1.0.0+a", "=1.0.0+b", 1);
        RangeResolver x = new RangeResolver();
        DUE.is("of itself", 1, x.inside(15, 15));
        for (int wrong : new int[] {-1, 16, Integer.MAX_VALUE, Integer.MIN_VALUE}) {
            DUE.is("inside(" + wrong + ", 0)", -1, x.inside(wrong, 0));
            DUE.is("inside(0, " + wrong + ")", -1, x.inside(0, wrong));
        }
        DUE.end();
    }

    private static void is(String a, String b, int answer) {
        RangeResolver x = new RangeResolver();
        Due.range(x, 0, a);
        Due.range(x, 15, b);
        DUE.is("inside(" + a + ", " + b + ")", answer, x.inside(0, 15));
        DUE.is("slot 0 stays", "" + Due.range(new RangeResolver(), a), Due.written(x, 0, 0));
    }
}
