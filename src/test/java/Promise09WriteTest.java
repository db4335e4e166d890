public final class Promise09WriteTest {
    private static final Due DUE = new Due();

    public static void main(String[] args) {
        slots();
        registry();
        longest();
        refusals();
        DUE.end();
    }

    private static void slots() {
        RangeResolver x = new RangeResolver();
        DUE.is("write(0, 0)", 1, x.write(0, 0));
        DUE.is("slot 0", "*", Due.page(x, 1));
        Due.range(x, 15, "1 2||3.0.0||>=4.0.0-x.1+b <5");
        DUE.is("write(0, 15)", 30, x.write(0, 15));
        DUE.is("slot 15", "=3.0.0 || >=4.0.0-x.1 <5.0.0-0", Due.written(x, 0, 15));
        Due.range(x, 1, ">2 <1");
        DUE.is("none", "none", Due.written(x, 0, 1));
    }

    private static void registry() {
        RangeResolver x = Due.withRegistry("package a{1.0.0+b.01 needs long_name_12 ^1 clash a<1||2;2.0.0-x.0;}"
            + "package long_name_12{0.1.0;}want a*;want long_name_12 <1 >1;");
        String[] releases = {"a 1.0.0+b.01", "a 2.0.0-x.0", "long_name_12 0.1.0"};
        String[] constraints = {"a 1.0.0+b.01 needs long_name_12 >=1.0.0 <2.0.0-0",
            "a 1.0.0+b.01 clash a <1.0.0-0 || >=2.0.0 <3.0.0-0", "want a *", "want long_name_12 none"};
        for (int r = 0; r < releases.length; r++) {
            DUE.is("release " + r, releases[r], Due.written(x, 1, r));
        }
        for (int c = 0; c < constraints.length; c++) {
            DUE.is("constraint " + c, constraints[c], Due.written(x, 2, c));
        }
        DUE.is("no release 3", "NONE", Due.written(x, 1, 3));
        DUE.is("no constraint 4", "NONE", Due.written(x, 2, 4));
    }

    /** Sixteen stretches whose bounds are as long as can be, out of several slots. */
    private static void longest() {
        RangeResolver x = new RangeResolver();
        String pre = "zzzzzzzy.zzzzzzzz.zzzzzzzz.zzzzzzzz";
        StringBuilder written = new StringBuilder();
        Due.range(x, 0, "<0");
        for (int i = 0; i < 16; i++) {
            String low = "9999999" + (10 + i) + ".999999999.999999999-" + pre;
            String high = low.replace('y', 'z');
            Due.range(x, 1, ">" + low + " <=" + high);
            DUE.is("combine", i + 1, x.combine(1, 0, 1, 0));
            written.append(i == 0 ? "" : " || ").append(">=" + low + ".0 <" + high + ".0");
        }
        DUE.is("write", written.length(), x.write(0, 0));
        String page = written.toString();
        for (int i = 0; i < 100; i++) {
            int at = i < 50 ? i : page.length() - 100 + i;
            DUE.is("octet(" + at + ")", page.charAt(at), x.octet(at));
        }
        DUE.is("octet behind it", -1, x.octet(page.length()));
    }

    private static void refusals() {
        RangeResolver x = Due.withRegistry("package a{1.0.0;}want a*;");
        DUE.is("write(1, 0)", 7, x.write(1, 0));
        int[][] wrong = {{-1, 0}, {3, 0}, {0, -1}, {0, 16}, {1, -1}, {1, 1}, {2, -1}, {2, 1},
            {Integer.MAX_VALUE, 0}, {0, Integer.MIN_VALUE}, {1, Integer.MAX_VALUE}, {2, Integer.MIN_VALUE}};
        for (int[] w : wrong) {
            DUE.is("write(" + w[0] + ", " + w[1] + ")", -1, x.write(w[0], w[1]));
            DUE.is("what was written stays", "a 1.0.0", Due.page(x, 7));
            DUE.is("what was written stays", -1, x.octet(7));
        }
    }
}
