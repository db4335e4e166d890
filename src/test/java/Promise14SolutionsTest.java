public final class Promise14SolutionsTest {
    private static final Due DUE = new Due();

    public static void main(String[] args) {
        is("", 1);
        is("package a{}", 1);
        is("package a{}want a*;", 0);
        is("package a{1.0.0;2.0.0;}", 3);
        is("package a{1.0.0;2.0.0;}want a*;", 2);
        is("package a{1.0.0;2.0.0 clash a*;}", 2);
        is("package a{1.0.0;2.0.0;}package b{1.0.0;}", 6);
        is("package a{1.0.0 needs b*;2.0.0 clash b*;}package b{1.0.0;}", 4);
        is("package a{1.0.0 needs b*;}package b{1.0.0 needs a*;}", 2);
        is("package a{1.0.0 needs b=2;2.0.0 needs b=1;}package b{1.0.0;}want a*;want b*;", 1);
        many();
        refusals();
        DUE.end();
    }

    /** Ten packages of six releases have 282,475,249 choices: no more than asked for are looked at. */
    private static void many() {
        StringBuilder text = new StringBuilder();
        for (int p = 0; p < 10; p++) {
            text.append("package p").append(p).append('{');
            for (int r = 0; r < 6; r++) {
                text.append(r).append(".0.0;");
            }
            text.append('}');
        }
        RangeResolver x = Due.withRegistry(text.toString());
        for (int most : new int[] {1, 2, 6, 7, 8, 48, 49, 50, 999, 1000}) {
            DUE.is("solutions(" + most + ")", most, x.solutions(most));
        }
        DUE.is("resolve of nothing wanted", 1, x.resolve(false));
        DUE.is("chosen releases", 0, x.count(4));
        x = Due.withRegistry(text + "want p9*;want p0 1;want p1 1;want p2 1;want p3 1;want p4 1;want p5 1;want p6 1;");
        DUE.is("7 * 7 * 6", 294, x.solutions(1000));
        DUE.is("7 * 7 * 6", 293, x.solutions(293));
    }

    private static void refusals() {
        RangeResolver x = Due.withRegistry("package a{1.0.0;2.0.0;}");
        for (int wrong : new int[] {0, -1, 1001, Integer.MAX_VALUE, Integer.MIN_VALUE}) {
            DUE.is("solutions(" + wrong + ")", -1, x.solutions(wrong));
        }
        DUE.is("resolve", 1, x.resolve(false));
        DUE.is("solutions(2)", 2, x.solutions(2));
        DUE.is("what was found stays", -1, x.chosen(0));
    }

    private static void is(String text, int solutions) {
        RangeResolver x = Due.withRegistry(text);
        DUE.is("solutions of " + text, solutions, x.solutions(1000));
        DUE.is("one of " + text, Math.min(1, solutions), x.solutions(1));
        DUE.is("two of " + text, Math.min(2, solutions), x.solutions(2));
        DUE.is("resolve of " + text, Math.min(1, solutions), x.resolve(false));
        DUE.is("solutions of " + text, solutions, x.solutions(1000));
    }
}
