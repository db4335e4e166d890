public final class Promise15WhyTest {
    private static final Due DUE = new Due();

    public static void main(String[] args) {
        is("package a{1.0.0;}want a*;", 0);
        is("package a{1.0.0;}package b{1.0.0;}want b*;want a*;want a=1;want b*;", 1, 0);
        is("package a{1.0.0 needs b*needs b=1;}package b{1.0.0;}want a*;", 2, 0);
        // a want is nearer than any link
        is("package a{1.0.0 needs b*;}package b{1.0.0;}want a*;want b*;", 1, 2);
        // d is reached by c in one step, though b's link, which is lower, reaches it in two
        is("package b{1.0.0 needs d*;}package c{1.0.0 needs b*needs d*;}package d{1.0.0;}want c*;", 1, 3, 2);
        // the links of releases that aren't chosen, and clashes, reach nothing
        is("package a{1.0.0 needs b*;2.0.0 clash b=2 needs b=1;}package b{1.0.0;2.0.0;}want a*;", 3, 2);
        // a chain, a circle, a link to the own package
        is("package a{1.0.0 needs a*needs b*;}package b{1.0.0 needs c*;}package c{1.0.0 needs a*;}want a*;", 4, 1, 2);
        is("package a{1.0.0;}package b{1.0.0;}want a*;", 0, -1);
        unresolved();
        DUE.end();
    }

    private static void unresolved() {
        RangeResolver x = Due.withRegistry("package a{1.0.0;}want a*;");
        DUE.is("nothing found yet", -1, x.why(0));
        DUE.is("resolve", 1, x.resolve(true));
        DUE.is("why(0)", 0, x.why(0));
        for (int wrong : new int[] {-1, 1, 10, Integer.MAX_VALUE, Integer.MIN_VALUE}) {
            DUE.is("why(" + wrong + ")", -1, x.why(wrong));
        }
        DUE.is("a new text", 0, Due.read(x, "package a{1.0.0;}want a=2;"));
        DUE.is("why(0)", -1, x.why(0));
        DUE.is("no solution", 0, x.resolve(false));
        DUE.is("why(0)", -1, x.why(0));
    }

    private static void is(String text, int... why) {
        RangeResolver x = Due.withRegistry(text);
        DUE.is("resolve of " + text, 1, x.resolve(false));
        for (int round = 0; round < 2; round++) {
            for (int p = 0; p < why.length; p++) {
                DUE.is("why(" + p + ") of " + text, why[p], x.why(p));
            }
        }
    }
}
