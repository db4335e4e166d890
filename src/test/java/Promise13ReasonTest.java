public final class Promise13ReasonTest {
    private static final Due DUE = new Due();

    public static void main(String[] args) {
        is("package a{}want a*;", 0);
        is("package a{1.0.0;}want a=1;want a=2;want a=3;", 1);
        // wants 0 and 2 can't be together, wants 1 and 2 neither: the last ones go first
        is("package a{1.0.0;2.0.0;}want a=1;want a<2;want a=2;", 0, 2);
        is("package a{1.0.0;2.0.0;}want a=2;want a=1;want a=2;", 0, 1);
        is("package a{1.0.0 needs b=1 clash b*;}package b{1.0.0;}want a*;", 0, 1, 2);
        is("package a{1.0.0 needs b=1 needs b=2 needs b=3;}package b{}want a*;want b*;", 0, 3);
        is("package a{1.0.0 needs b=1 needs b=2 needs b=3;}package b{}want a*;", 0, 3);
        is("package a{1.0.0 needs b=1;2.0.0 needs b=2;}package b{3.0.0 needs a*;}want a*;", 0, 1, 3);
        is("package a{1.0.0 clash a*;}want a*;", 0, 1);
        is("package a{1.0.0;}package b{1.0.0 clash a*;2.0.0 clash a=1 needs c*;}package c{}want a*;want b*;want c*;", 0, 1, 3, 4);
        is("package a{1.0.0;}package b{1.0.0 clash a*;2.0.0 clash a=1 needs c*;}package c{}want a*;want b*;", 0, 1, 3, 4);
        afterwards();
        DUE.end();
    }

    private static void afterwards() {
        RangeResolver x = Due.withRegistry("package a{}want a*;");
        DUE.is("nothing found yet", -1, x.reason(0));
        DUE.is("solutions find nothing", 0, x.solutions(5));
        DUE.is("nothing found yet", -1, x.reason(0));
        DUE.is("resolve", 0, x.resolve(false));
        for (int wrong : new int[] {-1, 1, Integer.MAX_VALUE, Integer.MIN_VALUE}) {
            DUE.is("reason(" + wrong + ")", -1, x.reason(wrong));
        }
        DUE.is("a faulty text", 1, Due.read(x, "}"));
        DUE.is("reason(0)", 0, x.reason(0));
        DUE.is("a new text", 0, Due.read(x, "package a{1.0.0;}want a*;"));
        DUE.is("reason(0)", -1, x.reason(0));
        DUE.is("resolve", 1, x.resolve(false));
        DUE.is("reason(0)", -1, x.reason(0));
    }

    private static void is(String text, int... reason) {
        RangeResolver x = Due.withRegistry(text);
        for (int round = 0; round < 2; round++) {
            DUE.is("resolve of " + text, 0, x.resolve(false));
            DUE.is("size of the reason of " + text, reason.length, x.count(5));
            for (int i = 0; i <= reason.length; i++) {
                DUE.is("reason(" + i + ") of " + text, i < reason.length ? reason[i] : -1, x.reason(i));
            }
        }
    }
}
