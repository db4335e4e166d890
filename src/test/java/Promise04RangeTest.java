public final class Promise04RangeTest {
    private static final Due DUE = new Due();

    public static void main(String[] args) {
        operatorsOfVersions();
        operatorsOfShorts();
        allsAndParts();
        nextOfLongVersions();
        faults();
        refusals();
        DUE.end();
    }

    private static void operatorsOfVersions() {
        is("*", "*");
        is("1.2.3", "=1.2.3");
        is("=1.2.3", "=1.2.3");
        is("1.2.3+b.01", "=1.2.3");
        is("1.2.3-a.1+b", "=1.2.3-a.1");
        is(">=1.2.3", ">=1.2.3");
        is(">1.2.3", ">=1.2.4-0");
        is(">1.2.3-a", ">=1.2.3-a.0");
        is("<1.2.3", "<1.2.3");
        is("<1.2.3-a", "<1.2.3-a");
        is("<=1.2.3", "<1.2.4-0");
        is("<=1.2.3-a", "<1.2.3-a.0");
        is("^1.2.3", ">=1.2.3 <2.0.0-0");
        is("^0.2.3", ">=0.2.3 <0.3.0-0");
        is("^0.0.3", "=0.0.3");
        is("^0.0.0", "=0.0.0");
        is("^0.0.3-a", ">=0.0.3-a <0.0.4-0");
        is("^1.2.3-a+b", ">=1.2.3-a <2.0.0-0");
        is("~1.2.3", ">=1.2.3 <1.3.0-0");
        is("~0.0.0", ">=0.0.0 <0.1.0-0");
        is("~1.2.3-a", ">=1.2.3-a <1.3.0-0");
    }

    private static void operatorsOfShorts() {
        for (String filling : new String[] {"", ".x", ".x.x"}) {
            is("1" + filling, ">=1.0.0 <2.0.0-0");
            is("=1" + filling, ">=1.0.0 <2.0.0-0");
            is(">=1" + filling, ">=1.0.0");
            is(">1" + filling, ">=2.0.0");
            is("<1" + filling, "<1.0.0-0");
            is("<=1" + filling, "<2.0.0-0");
            is("^1" + filling, ">=1.0.0 <2.0.0-0");
            is("^0" + filling, ">=0.0.0 <1.0.0-0");
            is("~1" + filling, ">=1.0.0 <2.0.0-0");
            is("~0" + filling, ">=0.0.0 <1.0.0-0");
        }
        for (String filling : new String[] {"", ".x"}) {
            is("1.2" + filling, ">=1.2.0 <1.3.0-0");
            is("=1.2" + filling, ">=1.2.0 <1.3.0-0");
            is(">=1.2" + filling, ">=1.2.0");
            is(">1.2" + filling, ">=1.3.0");
            is("<1.2" + filling, "<1.2.0-0");
            is("<=1.2" + filling, "<1.3.0-0");
            is("^1.2" + filling, ">=1.2.0 <2.0.0-0");
            is("^0.2" + filling, ">=0.2.0 <0.3.0-0");
            is("^0.0" + filling, ">=0.0.0 <0.1.0-0");
            is("~1.2" + filling, ">=1.2.0 <1.3.0-0");
        }
        is("999999999", ">=999999999.0.0 <1000000000.0.0-0");
        is(">999999999.999999999", ">=999999999.1000000000.0");
        is("<0", "none");
    }

    private static void allsAndParts() {
        is(">=1.0.0 <2.0.0", ">=1.0.0 <2.0.0");
        is(">=1.0.0<2.0.0", ">=1.0.0 <2.0.0");
        is(" \n>=1 <3\n~2.1 ", ">=2.1.0 <2.2.0-0");
        is(">2 <1", "none");
        is("*1", ">=1.0.0 <2.0.0-0");
        is("** ***\n*", "*");
        is("1 || 2", ">=1.0.0 <2.0.0-0 || >=2.0.0 <3.0.0-0");
        is("<2.0.0||>=2.0.0", "*");
        is("<=2.0.0||>2.0.0", "*");
        is("<2.0.0||>2.0.0", "<2.0.0 || >=2.0.1-0");
        is("3.0.0||1.0.0||2.0.0||1.0.0", "=1.0.0 || =2.0.0 || =3.0.0");
        is("1.0.0||1.0.1-0", ">=1.0.0 <1.0.1-0.0");
        is("0.0.0-0", "=0.0.0-0");
        is("<0.0.0-0", "none");
        is("<=0.0.0-0", "=0.0.0-0");
        is(">=0.0.0-0", "*");
        is(">0.0.0-0", ">=0.0.0-0.0");
        is(">=0.0.0", ">=0.0.0");
        is("<1||>3 <2||*", "*");
        String sixteen = "";
        String written = "";
        for (int i = 15; i >= 0; i--) {
            sixteen += i + ".1.1" + (i == 0 ? "" : "||");
            written = (i == 0 ? "" : " || ") + "=" + i + ".1.1" + written;
        }
        is(sixteen, written);
    }

    private static void nextOfLongVersions() {
        is(">1.0.0-a.b.c.d", ">=1.0.0-a.b.c.d.0");
        is("<=1.0.0-a.b.c.d", "<1.0.0-a.b.c.d.0");
        is("1.0.0-a.b.c.d", "=1.0.0-a.b.c.d");
        is(">1.0.0-a.b.c.d <1.0.0-a.b.c.e", ">=1.0.0-a.b.c.d.0 <1.0.0-a.b.c.e");
        is("1.1.999999999", "=1.1.999999999");
        is(">1.1.999999999", ">=1.1.1000000000-0");
        is("1.0.0-zzzzzzzz.99999999.0.---", "=1.0.0-zzzzzzzz.99999999.0.---");
    }

    private static void faults() {
        fault(1, "", "");
        fault(1, "  ", "");
        fault(1, "1 ||", "");
        fault(1, "1 || \n", "");
        fault(1, "", "|| 1");
        fault(1, "1 || ", "|| 1");
        fault(1, "1 ", "| 1");
        fault(1, " ", "x");
        fault(1, "1 ", "a");
        fault(1, "1 ", ";");
        fault(1, "1 ", "{");
        fault(1, "1", "\t");
        fault(1, "", ">=*");
        fault(1, "", "> 1");
        fault(1, "", ">");
        fault(1, "1 ", "==1");
        fault(1, "1 ", "=>1");
        fault(1, "1 ", ">==1");
        fault(1, "1 ", "^~1");
        for (String wrong : new String[] {"01", "1.", ".1", "1..1", "1.01", "1.2.03", "1.2.3.4", "1.x.2", "1.X", "1.2.x.x",
            "1.x.x.x", "1.2.3-", "1.2.3+", "1.2.3-+a", "1.2.3-01", "1.2.3-a.", "1.2.3-a..b", "1.2.3-a.b.c.d.e",
            "1.2.3+a.b.c.d.e", "1.2.3-abcdefghi", "1.2.3+123456789", "1.2.3+a+b", "1-a", "1.2-a", "1.2+a", "1.x-a",
            "1234567890", "1.1234567890.1", "1.2.3-123456789", "-1", "1.-1", "A", "1.2.3a", "1.2.3.x", "1.2.x-a", "+1"}) {
            fault(1, "", wrong);
            fault(1, "* ", "^" + wrong);
        }
        is("1.2.3+01.00000000.-.A", "=1.2.3");
        is("1.2.3-0.a.-1.0a", "=1.2.3-0.a.-1.0a");
        is("1.2.3--", "=1.2.3--");
        is("1.2.3-0a", "=1.2.3-0a");
        fault(2, "* * * * * *", "*");
        fault(2, "1 || 1 2 3 4 5 6 ", "7 || 8 8.8.8.8");
        fault(1, "* * * * * * ", "8.8.8.8");
        fault(2, "1||".repeat(16), "1");
        fault(2, "1||".repeat(16) + " ", "1 2 3 4 5 6 7");
        fault(1, "1||".repeat(16), "");
        fault(1, "1||".repeat(16), "a");
        fault(1, "1||".repeat(16), "8.8.8.8");
    }

    private static void refusals() {
        RangeResolver x = new RangeResolver();
        DUE.is("range(3, ..)", 0, Due.range(x, 3, "^1.2"));
        int n = Due.feed(x, "2");
        DUE.is("no slot 16", -1, x.range(16, n));
        DUE.is("no slot -1", -1, x.range(-1, n));
        DUE.is("n below 0", -1, x.range(3, -1));
        DUE.is("n above the tape", -1, x.range(3, 21));
        DUE.is("the tape stays", 20, x.count(3));
        DUE.is("the slot stays", ">=1.2.0 <2.0.0-0", Due.written(x, 0, 3));
        DUE.is("a fault", 1, x.range(3, 0));
        DUE.is("the tape is empty", 0, x.count(3));
        DUE.is("the slot stays", ">=1.2.0 <2.0.0-0", Due.written(x, 0, 3));
        DUE.is("the other slots stay", "*", Due.written(x, 0, 2));
        DUE.is("slot 15", 0, Due.range(x, 15, "2"));
        DUE.is("slot 15", ">=2.0.0 <3.0.0-0", Due.written(x, 0, 15));
        DUE.is("slot 0", 0, Due.range(x, 0, "2"));
        DUE.is("behind n nothing counts", 0, x.range(1, Due.feed(x, "1.0.0 ;") - 1));
        DUE.is("slot 1", "=1.0.0", Due.written(x, 0, 1));
        DUE.is("behind n nothing counts", 1 + 8 * 2, x.range(1, Due.feed(x, "1 || 2") - 3));
        DUE.is("behind n nothing counts", 1 + 8 * 2, x.range(1, Due.feed(x, "1 >=1") - 2));
        DUE.is("behind n nothing counts", 0, x.range(1, Due.feed(x, "1.0.0-a1") - 1));
        DUE.is("slot 1", "=1.0.0-a", Due.written(x, 0, 1));
    }

    private static void is(String text, String written) {
        DUE.is("range \"" + text + "\"", written, Due.range(new RangeResolver(), text));
    }

    /** A fault is due where the second text begins. */
    private static void fault(int kind, String fine, String faulty) {
        DUE.is("range \"" + fine + faulty + "\"", kind + 8 * fine.length(), Due.range(new RangeResolver(), 7, fine + faulty));
    }
}
