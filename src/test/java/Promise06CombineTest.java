public final class Promise06CombineTest {
    private static final Due DUE = new Due();

    public static void main(String[] args) {
        is("1", "1.2", ">=1.2.0 <1.3.0-0", ">=1.0.0 <2.0.0-0", ">=1.0.0 <1.2.0 || >=1.3.0-0 <2.0.0-0");
        is("<2", ">=1", ">=1.0.0 <2.0.0-0", "*", "<1.0.0");
        is("*", "1.0.0", "=1.0.0", "*", "<1.0.0 || >=1.0.1-0");
        is("1.0.0", "2.0.0", "none", "=1.0.0 || =2.0.0", "=1.0.0");
        is("<1.0.0", ">=1.0.0", "none", "*", "<1.0.0");
        is("<=1.0.0", ">=1.0.0", "=1.0.0", "*", "<1.0.0");
        is("1||3||5", "2.0.0||3.1.x||>=5", ">=3.1.0 <3.2.0-0 || >=5.0.0 <6.0.0-0",
            ">=1.0.0 <2.0.0-0 || =2.0.0 || >=3.0.0 <4.0.0-0 || >=5.0.0",
            ">=1.0.0 <2.0.0-0 || >=3.0.0 <3.1.0 || >=3.2.0-0 <4.0.0-0");
        is("<1 >1", "1", "none", ">=1.0.0 <2.0.0-0", "none");
        is("*", "<1 >1", "none", "*", "*");
        is("*", "*", "*", "*", "none");
        theSameSlots();
        moreThanSixteen();
        refusals();
        DUE.end();
    }

    private static void theSameSlots() {
        RangeResolver x = new RangeResolver();
        Due.range(x, 1, "1||2");
        DUE.is("into a", 3, x.combine(2, 0, 1, 0));
        DUE.is("slot 0", "<1.0.0 || >=2.0.0-0 <2.0.0 || >=3.0.0-0", Due.written(x, 0, 0));
        DUE.is("into b", 2, x.combine(0, 2, 1, 1));
        DUE.is("slot 1", ">=1.0.0 <2.0.0-0 || >=2.0.0 <3.0.0-0", Due.written(x, 0, 1));
        DUE.is("all three", 2, x.combine(1, 1, 1, 1));
        DUE.is("all three", 0, x.combine(2, 1, 1, 1));
        DUE.is("slot 1", "none", Due.written(x, 0, 1));
    }

    private static void moreThanSixteen() {
        RangeResolver x = new RangeResolver();
        Due.range(x, 1, alls(0, 16, 2));
        Due.range(x, 2, alls(1, 16, 2));
        Due.range(x, 3, "40.1.1");
        DUE.is("sixteen", 16, x.count(17));
        DUE.is("32 in all", -1, x.combine(1, 1, 2, 3));
        DUE.is("17 in all", -1, x.combine(1, 1, 3, 1));
        DUE.is("17 in all", -1, x.combine(2, 0, 1, 3));
        DUE.is("slot 3 stays", "=40.1.1", Due.written(x, 0, 3));
        DUE.is("slot 1 stays", 16, x.count(17));
        Due.range(x, 4, alls(0, 15, 2));
        DUE.is("16 in all", 16, x.combine(1, 4, 3, 5));
        DUE.is("16 in all", 16, x.combine(2, 0, 4, 5));
        DUE.is("17 in all", -1, x.combine(2, 0, 1, 5));
        Due.range(x, 6, "<40");
        DUE.is("17 in all", -1, x.combine(2, 6, 1, 6));
        Due.range(x, 6, "<30.1.1");
        DUE.is("16 in all", 16, x.combine(2, 6, 1, 6));
        DUE.is("the same again", 16, x.combine(0, 6, 6, 6));
    }

    private static String alls(int from, int count, int step) {
        StringBuilder text = new StringBuilder();
        for (int i = 0; i < count; i++) {
            text.append(i == 0 ? "" : "||").append(from + i * step).append(".1.1");
        }
        return text.toString();
    }

    private static void refusals() {
        RangeResolver x = new RangeResolver();
        Due.range(x, 1, "1");
        int[][] wrong = {{-1, 0, 0, 1}, {3, 0, 0, 1}, {0, -1, 0, 1}, {0, 16, 0, 1}, {0, 0, -1, 1}, {0, 0, 16, 1}, {0, 0, 0, -1},
            {0, 0, 0, 16}, {Integer.MIN_VALUE, Integer.MAX_VALUE, 0, 1}};
        for (int[] w : wrong) {
            DUE.is("combine", -1, x.combine(w[0], w[1], w[2], w[3]));
        }
        DUE.is("slot 1 stays", ">=1.0.0 <2.0.0-0", Due.written(x, 0, 1));
    }

    private static void is(String a, String b, String and, String or, String without) {
        String[] results = {and, or, without};
        for (int how = 0; how < 3; how++) {
            RangeResolver x = new RangeResolver();
            Due.range(x, 4, a);
            Due.range(x, 9, b);
            int stretches = results[how].equals("none") ? 0 : results[how].split(" \\|\\| ").length;
            String call = "combine(" + how + ", " + a + ", " + b + ")";
            DUE.is(call, stretches, x.combine(how, 4, 9, 15));
            DUE.is(call, results[how], Due.written(x, 0, 15));
            DUE.is(call, stretches, x.count(31));
        }
    }
}
