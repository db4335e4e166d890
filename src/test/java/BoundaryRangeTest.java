/** PART 1 and promises 4, 6 and 7: how many PARTS and ALLS, what a SHORT is, each OPERATOR at the ends, how many STRETCHES. */
public final class BoundaryRangeTest {
    private static final int FORM = 1;
    private static final int TOO_MUCH = 2;
    private static final String BIG = "999999999";
    private static final String ABOVE = "1000000000";
    private static final String[] OPERATORS = {"", "=", ">=", "<=", ">", "<", "^", "~"};
    private static final Due DUE = new Due();

    public static void main(String[] args) {
        parts();
        alls();
        partsAndAlls();
        shorts();
        operatorSigns();
        operatorsAtTheLeast();
        operatorsAtTheGreatest();
        operatorsOfLongRows();
        caretAtZeros();
        allOrNone();
        stretchesThatTouch();
        versionAlone();
        stretchesOfARange();
        stretchesOfCombine();
        insideAtTheEnds();
        blanks();
        faultsLeaveTheSlot();
        DUE.end();
    }

    /** ALL: one to six PARTS; a 7th PART is TOO MUCH. */
    private static void parts() {
        fault(FORM, "", "");
        for (int parts = 1; parts <= 6; parts++) {
            is("* ".repeat(parts), "*");
            is("*".repeat(parts - 1) + ">=1.0.0", ">=1.0.0");
            is(">=1.0.0 ".repeat(parts - 1) + "<2", parts == 1 ? "<2.0.0-0" : ">=1.0.0 <2.0.0-0");
        }
        is(">=1 >=2 >=3 >=4 >=5 >=6", ">=6.0.0");
        for (String part : new String[] {"*", "1", "1.x", "1.0.0", ">=1", "<1.0.0-a"}) {
            fault(TOO_MUCH, "* * * * * * ", part);
            fault(TOO_MUCH, "* * * * * * ", part + " *");
            fault(TOO_MUCH, "* * * * * * ", part + " ;");
        }
        fault(FORM, "* * * * * * ", ";");
        fault(FORM, "* * * * * * ", "a");
        fault(FORM, "* * * * * * ", "1.");
        fault(FORM, "* * * * * * ", ">");
        fault(FORM, "* * * * * * ||", "");
        fault(FORM, "* * * * * ", ">");
    }

    /** RANGE: one to 16 ALLS; a 17th ALL is TOO MUCH, at its first TOKEN. */
    private static void alls() {
        for (int alls = 1; alls <= 16; alls++) {
            is("1||".repeat(alls - 1) + "*", "*");
            is("1||".repeat(alls - 1) + "1", ">=1.0.0 <2.0.0-0");
            fault(FORM, "1||".repeat(alls), "");
            fault(FORM, "1||".repeat(alls), "||1");
        }
        is("1||".repeat(15) + "2.0.0", ">=1.0.0 <2.0.0-0 || =2.0.0");
        for (String part : new String[] {"*", "1", "1.0.0", ">=1"}) {
            fault(TOO_MUCH, "1||".repeat(16), part);
            fault(TOO_MUCH, "1 || ".repeat(16), part);
            fault(TOO_MUCH, "1||".repeat(16) + "\n ", part + " * * * * * * * || ||");
        }
        fault(FORM, "1||".repeat(16), ";");
        fault(FORM, "1||".repeat(16), "a");
        fault(FORM, "1||".repeat(16), "01");
        fault(FORM, "1||".repeat(16), "|1");
        fault(FORM, "1||".repeat(15) + "1", "|1");
        fault(FORM, "1||".repeat(15) + "1 ", ";");
        fault(FORM, "", "||1");
    }

    private static void partsAndAlls() {
        String six = "* * * * * *";
        is((six + "||").repeat(15) + six, "*");
        fault(TOO_MUCH, (six + "||").repeat(15) + six, "*");
        fault(TOO_MUCH, (six + "||").repeat(16), six);
        fault(TOO_MUCH, (six + "||").repeat(3) + six, "*||" + (six + "||").repeat(16));
        // the lowest place: the 7th PART stands ahead of the 17th ALL, the FORM ahead of both
        fault(TOO_MUCH, six, "*||" + "1||".repeat(16) + "1");
        fault(FORM, "1 ", "01 * * * * * *||" + "1||".repeat(16));
        is("1 2 3 4 5 6||1 2 3 4 5 6", "none");
    }

    /** SHORT: one or two NUMBERS with a point between, behind them perhaps .x (behind one also .x.x). */
    private static void shorts() {
        for (String operator : OPERATORS) {
            for (String fine : new String[] {"0", "0.x", "0.x.x", "0.0", "0.0.x", "1", "9.9", "10.x", BIG, BIG + ".x", BIG + ".x.x",
                BIG + "." + BIG, BIG + "." + BIG + ".x", "0." + BIG, "99999999.100000000.x"}) {
                DUE.is("range of " + operator + fine, 0, Due.range(new RangeResolver(), 0, operator + fine));
            }
            for (String wrong : new String[] {"0.", "0.x.", "0.x.x.", "0.x.x.x", "0.x.0", "0.0.x.", "0.0.x.x", "0.0.0.x", "0.X", "0.0.X", "0.xx",
                "0.0.xx", "0x", "0.0x", "00", "01", "0.00", "0.01", "0.00.x", "00.x", "0..x", "0.-", "0-0", "0.0-0", "0.x-0", "0+a", "0.0+a",
                "0.x+a", "0.x.x+a", "0.0.x-0", ABOVE, ABOVE + ".x", "0." + ABOVE, "0." + ABOVE + ".x", ABOVE + ".0", "0.*", "0.x.*"}) {
                fault(FORM, "", operator + wrong);
            }
        }
        for (String operator : new String[] {"=", ">=", "<=", ">", "<", "^", "~"}) {
            for (String wrong : new String[] {"", "x", "x.x", "X", "*", "x.0", ".0", ".x", " 1", "\n1", "a", "-1", "+1", "||1", ";"}) {
                fault(FORM, "1 ", operator + wrong);
            }
        }
        fault(FORM, "", "x");
        fault(FORM, "", "x.x");
        fault(FORM, "", "X");
        for (String filling : new String[] {"", ".x", ".x.x"}) {
            is("0" + filling, ">=0.0.0 <1.0.0-0");
            is(BIG + filling, ">=" + BIG + ".0.0 <" + ABOVE + ".0.0-0");
        }
        for (String filling : new String[] {"", ".x"}) {
            is("0.0" + filling, ">=0.0.0 <0.1.0-0");
            is("0." + BIG + filling, ">=0." + BIG + ".0 <0." + ABOVE + ".0-0");
        }
    }

    /** An OPERATOR (none, =, >=, <=, >, <, ^, ~): no other sign, and no two of them, is one. */
    private static void operatorSigns() {
        for (char sign = 0; sign < 256; sign++) {
            boolean operator = "=><^~".indexOf(sign) >= 0;
            boolean digit = sign >= '0' && sign <= '9';
            boolean blank = sign == ' ' || sign == '\n';
            boolean fine = operator || digit && sign != '0' || blank || sign == '*';
            DUE.is("range of sign " + (int) sign + " and 1", fine ? 0 : FORM, Due.range(new RangeResolver(), 0, sign + "1"));
            DUE.is("range of * and sign " + (int) sign, digit || blank || sign == '*' ? 0 : FORM + 8,
                Due.range(new RangeResolver(), 0, "*" + sign));
        }
        for (String two : new String[] {"==", "=>", "=<", "><", "<>", ">>", "<<", "^^", "~~", "~>", "^=", "~=", "=^", "=~", ">==", "<==", ">=<"}) {
            fault(FORM, "", two + "1");
        }
    }

    private static void operatorsAtTheLeast() {
        operators("0.0.0-0", "=0.0.0-0", "*", "=0.0.0-0", ">=0.0.0-0.0", "none", "<0.0.1-0", "<0.1.0-0");
        operators("0.0.0-0.0", "=0.0.0-0.0", ">=0.0.0-0.0", "<0.0.0-0.0.0", ">=0.0.0-0.0.0", "=0.0.0-0", ">=0.0.0-0.0 <0.0.1-0",
            ">=0.0.0-0.0 <0.1.0-0");
        operators("0.0.0-1", "=0.0.0-1", ">=0.0.0-1", "<0.0.0-1.0", ">=0.0.0-1.0", "<0.0.0-1", ">=0.0.0-1 <0.0.1-0", ">=0.0.0-1 <0.1.0-0");
        operators("0.0.0", "=0.0.0", ">=0.0.0", "<0.0.1-0", ">=0.0.1-0", "<0.0.0", "=0.0.0", ">=0.0.0 <0.1.0-0");
        operators("0.0.1-0", "=0.0.1-0", ">=0.0.1-0", "<0.0.1-0.0", ">=0.0.1-0.0", "<0.0.1-0", ">=0.0.1-0 <0.0.2-0", ">=0.0.1-0 <0.1.0-0");
        operators("0.0.1", "=0.0.1", ">=0.0.1", "<0.0.2-0", ">=0.0.2-0", "<0.0.1", "=0.0.1", ">=0.0.1 <0.1.0-0");
        operators("0", ">=0.0.0 <1.0.0-0", ">=0.0.0", "<1.0.0-0", ">=1.0.0", "none", ">=0.0.0 <1.0.0-0", ">=0.0.0 <1.0.0-0");
        operators("0.0", ">=0.0.0 <0.1.0-0", ">=0.0.0", "<0.1.0-0", ">=0.1.0", "none", ">=0.0.0 <0.1.0-0", ">=0.0.0 <0.1.0-0");
        operators("0.1", ">=0.1.0 <0.2.0-0", ">=0.1.0", "<0.2.0-0", ">=0.2.0", "<0.1.0-0", ">=0.1.0 <0.2.0-0", ">=0.1.0 <0.2.0-0");
        operators("1", ">=1.0.0 <2.0.0-0", ">=1.0.0", "<2.0.0-0", ">=2.0.0", "<1.0.0-0", ">=1.0.0 <2.0.0-0", ">=1.0.0 <2.0.0-0");
    }

    private static void operatorsAtTheGreatest() {
        String v = BIG + "." + BIG + "." + BIG;
        String next = BIG + "." + BIG + "." + ABOVE + "-0";
        String nextSecond = BIG + "." + ABOVE + ".0-0";
        String nextFirst = ABOVE + ".0.0-0";
        operators(v, "=" + v, ">=" + v, "<" + next, ">=" + next, "<" + v, ">=" + v + " <" + nextFirst, ">=" + v + " <" + nextSecond);
        String filled = BIG + "." + BIG + ".0";
        operators(BIG + "." + BIG, ">=" + filled + " <" + nextSecond, ">=" + filled, "<" + nextSecond, ">=" + BIG + "." + ABOVE + ".0",
            "<" + filled + "-0", ">=" + filled + " <" + nextFirst, ">=" + filled + " <" + nextSecond);
        filled = BIG + ".0.0";
        operators(BIG, ">=" + filled + " <" + nextFirst, ">=" + filled, "<" + nextFirst, ">=" + ABOVE + ".0.0", "<" + filled + "-0",
            ">=" + filled + " <" + nextFirst, ">=" + filled + " <" + nextFirst);
        is("^0.0." + BIG, "=0.0." + BIG);
        is("^0." + BIG + ".0", ">=0." + BIG + ".0 <0." + ABOVE + ".0-0");
        is("^0." + BIG, ">=0." + BIG + ".0 <0." + ABOVE + ".0-0");
        is("=" + v + " || >" + v, ">=" + v);
        is("<=" + v + " || >" + v, "*");
        is("<=" + v + " >" + v, "none");
        is(">" + BIG + " <=" + BIG, "none");
        is(">" + BIG + " || <=" + BIG, "<" + nextFirst + " || >=" + ABOVE + ".0.0");
    }

    /** THE NEXT of a VERSION with - has one more IDENTIFIER, so five where it has four. */
    private static void operatorsOfLongRows() {
        String longest = BIG + "." + BIG + "." + BIG + "-zzzzzzzz.zzzzzzzz.zzzzzzzz.zzzzzzzz";
        String first = ABOVE + ".0.0-0";
        String second = BIG + "." + ABOVE + ".0-0";
        operators(longest, "=" + longest, ">=" + longest, "<" + longest + ".0", ">=" + longest + ".0", "<" + longest,
            ">=" + longest + " <" + first, ">=" + longest + " <" + second);
        for (String v : new String[] {"1.0.0-a", "1.0.0-a.b", "1.0.0-a.b.c", "1.0.0-a.b.c.d", "1.0.0-0.0.0.0", "1.0.0-99999999"}) {
            operators(v, "=" + v, ">=" + v, "<" + v + ".0", ">=" + v + ".0", "<" + v, ">=" + v + " <2.0.0-0", ">=" + v + " <1.1.0-0");
            operators(v + "+zzzzzzzz.00000000.0.-", "=" + v, ">=" + v, "<" + v + ".0", ">=" + v + ".0", "<" + v,
                ">=" + v + " <2.0.0-0", ">=" + v + " <1.1.0-0");
        }
        is(">1.0.0-a.b.c.d <=1.0.0-a.b.c.d", "none");
        is(">1.0.0-a.b.c.d || <=1.0.0-a.b.c.d", "*");
        is(">1.0.0-a.b.c <1.0.0-a.b.c.0", "none");
        is(">1.0.0-a.b.c <=1.0.0-a.b.c.0", "=1.0.0-a.b.c.0");
        is(">1.0.0-a.b.c.0 <1.0.0-a.b.c.1", ">=1.0.0-a.b.c.0.0 <1.0.0-a.b.c.1");
    }

    /** ^: of its NUMBERS told the first that is not 0 is 1 more (all 0: the last told). */
    private static void caretAtZeros() {
        is("^0.0.0-a", ">=0.0.0-a <0.0.1-0");
        is("^0.0.1-a", ">=0.0.1-a <0.0.2-0");
        is("^0.1.0", ">=0.1.0 <0.2.0-0");
        is("^0.1.9", ">=0.1.9 <0.2.0-0");
        is("^1.0.0", ">=1.0.0 <2.0.0-0");
        is("^1.1.1", ">=1.1.1 <2.0.0-0");
        is("^1.0", ">=1.0.0 <2.0.0-0");
        is("^1.0.x", ">=1.0.0 <2.0.0-0");
        is("^0.0.x", ">=0.0.0 <0.1.0-0");
        is("^0.x", ">=0.0.0 <1.0.0-0");
        is("^0.x.x", ">=0.0.0 <1.0.0-0");
        is("~0.x", ">=0.0.0 <1.0.0-0");
        is("~0.0.x", ">=0.0.0 <0.1.0-0");
        is("~0.0.9", ">=0.0.9 <0.1.0-0");
        is("~1.0", ">=1.0.0 <1.1.0-0");
    }

    /** WRITTEN: * if all are in it, none if none is. */
    private static void allOrNone() {
        is("*", "*");
        is(">=0.0.0-0", "*");
        is(">=0.0.0-0+b", "*");
        is(">0.0.0-0", ">=0.0.0-0.0");
        is(">0.0.0-0 || 0.0.0-0", "*");
        is(">=0.0.0-0 <" + BIG, "<" + BIG + ".0.0-0");
        is("<0.0.0-0", "none");
        is("<0", "none");
        is("<0.0.x", "none");
        is("<0 || <0.0 || <0.0.0-0", "none");
        is("<=0.0.0-0", "=0.0.0-0");
        is("<0.0.0-0 || *", "*");
        is("* <0.0.0-0", "none");
        is(">=1 <1", "none");
        is(">=1.0.0 <1.0.0", "none");
        is(">=1.0.0 <=1.0.0", "=1.0.0");
        is(">1.0.0 <1.0.1-0", "none");
        is(">1.0.0 <=1.0.1-0", "=1.0.1-0");
        is(">1.0.0 <=1.0.0", "none");
        is("1.0.0 1.0.0+b", "=1.0.0");
        is("1.0.0 1.0.0-0", "none");
    }

    /** As few as can be: two become one if no VERSION lies between them. */
    private static void stretchesThatTouch() {
        is("<1.0.0 || >=1.0.0", "*");
        is("<1.0.0 || >1.0.0", "<1.0.0 || >=1.0.1-0");
        is("<=1.0.0 || >1.0.0", "*");
        is("<=1.0.0 || >=1.0.1-0", "*");
        is("<=1.0.0 || >=1.0.1-0.0", "<1.0.1-0 || >=1.0.1-0.0");
        is("<=1.0.0 || >=1.0.1", "<1.0.1-0 || >=1.0.1");
        is("<=1.0.0 || >0.9.9", "*");
        is("<2 || >=2", "<2.0.0-0 || >=2.0.0");
        is("<2 || >=2.0.0-0", "*");
        is("<2 || >=2.0.0-0.0", "<2.0.0-0 || >=2.0.0-0.0");
        is("1 || 2", ">=1.0.0 <2.0.0-0 || >=2.0.0 <3.0.0-0");
        is("1 || >=2.0.0-0 <3", ">=1.0.0 <3.0.0-0");
        is("1.0.0-a || 1.0.0-a.0", ">=1.0.0-a <1.0.0-a.0.0");
        is("1.0.0-a || 1.0.0-a.1", "=1.0.0-a || =1.0.0-a.1");
        is("1.0.0 || 1.0.1-0", ">=1.0.0 <1.0.1-0.0");
        is("1.0.0 || 1.0.1", "=1.0.0 || =1.0.1");
        is("1 || 1.0.0 || 1.9 || <=1", "<2.0.0-0");
    }

    /** =V if it's V alone: THE NEXT of V is its end. */
    private static void versionAlone() {
        is(">=1.2.3 <1.2.4-0", "=1.2.3");
        is(">=1.2.3 <1.2.4-0.0", ">=1.2.3 <1.2.4-0.0");
        is(">=1.2.3 <1.2.4", ">=1.2.3 <1.2.4");
        is(">=1.2.3-0 <1.2.4-0", ">=1.2.3-0 <1.2.4-0");
        is(">=1.2.3-a <1.2.3-a.0", "=1.2.3-a");
        is(">=1.2.3-a <1.2.3-a.0.0", ">=1.2.3-a <1.2.3-a.0.0");
        is(">=1.2.3-a <1.2.3-a.1", ">=1.2.3-a <1.2.3-a.1");
        is("<0.0.0-0.0", "=0.0.0-0");
        is("<0.0.0-0.0.0", "<0.0.0-0.0.0");
        is("<0.0.0-1", "<0.0.0-1");
        is(">=0.0.0 <0.0.1-0", "=0.0.0");
        is(">=" + BIG + "." + BIG + "." + BIG + " <" + BIG + "." + BIG + "." + BIG, "none");
        is(">=1.0.0-a.b.c.d <=1.0.0-a.b.c.d", "=1.0.0-a.b.c.d");
    }

    /** It may have 16 STRETCHES. */
    private static void stretchesOfARange() {
        for (int stretches = 1; stretches <= 16; stretches++) {
            RangeResolver x = new RangeResolver();
            DUE.is("range", 0, Due.range(x, 0, lone(0, stretches, 1)));
            DUE.is("stretches", stretches, x.count(16));
            DUE.is("written", lone(0, stretches, 1).replace("||", " || =").replaceFirst("", "="), Due.written(x, 0, 0));
        }
        is("<" + longest("a") + "||" + ">" + longest("b") + " <=" + longest("c"),
            "<" + longest("a") + " || >=" + longest("b") + ".0 <" + longest("c") + ".0");
    }

    /** More than 16: NONE, and slot c stays; with 16 it becomes it. */
    private static void stretchesOfCombine() {
        for (int a = 14; a <= 16; a++) {
            for (int b = 0; b <= 3; b++) {
                combines(1, lone(0, a, 2), b == 0 ? "<0" : lone(1, b, 2), a + b);
                combines(2, "<" + (2 * a - 1) + ".5", lone(0, a, 2), a + 1);
                combines(2, "<=" + (2 * a - 2) + ".1.1", lone(0, a, 2), a);
            }
        }
        combines(1, lone(0, 16, 2), lone(1, 16, 2), 32);
        combines(1, lone(0, 16, 2), lone(0, 16, 2), 16);
        combines(0, lone(0, 16, 2), lone(0, 16, 2), 16);
        combines(0, lone(0, 16, 2), "*", 16);
        combines(0, lone(0, 16, 2), lone(1, 16, 2), 0);
        combines(2, lone(0, 16, 2), lone(0, 16, 2), 0);
        combines(2, lone(0, 16, 2), lone(1, 16, 2), 16);
        combines(2, "*", lone(0, 16, 2), 17);
        combines(2, "*", lone(0, 15, 2), 16);
        // each bridge reaches from within one stretch to within the one behind it
        combines(0, wide(9), bridges(7), 14);
        combines(0, wide(9), bridges(8), 16);
        combines(0, wide(9), bridges(9), 17);
        combines(0, wide(16), bridges(16), 31);
        combines(1, wide(16), bridges(15), 1);
        combines(2, wide(15), "3.1.1", 16);
        combines(2, wide(16), "3.1.1", 17);
        combines(2, wide(16), wide(16).replace(".0.0", ".1.0").replace(".8.0", ".2.0"), 32);
        combines(1, lone(0, 16, 2), ">30.1.1", 16);
        combines(1, lone(0, 16, 2), ">=30.1.2", 17);
    }

    private static void combines(int how, String a, String b, int stretches) {
        RangeResolver x = new RangeResolver();
        DUE.is("range a", 0, Due.range(x, 3, a));
        DUE.is("range b", 0, Due.range(x, 4, b));
        DUE.is("range c", 0, Due.range(x, 5, "7.7.7||8.8.8"));
        String call = "combine(" + how + ", \"" + a + "\", \"" + b + "\")";
        DUE.is(call, stretches > 16 ? -1 : stretches, x.combine(how, 3, 4, 5));
        DUE.is(call + ", stretches", stretches > 16 ? 2 : stretches, x.count(21));
        if (stretches > 16) {
            DUE.is(call + ", slot c stays", "=7.7.7 || =8.8.8", Due.written(x, 0, 5));
            String before = Due.written(x, 0, 3);
            DUE.is(call + " into a", -1, x.combine(how, 3, 4, 3));
            DUE.is(call + " into a, which stays", before, Due.written(x, 0, 3));
        }
    }

    /** Whether all that is in slot a is in b: the ends are the same, or one step off. */
    private static void insideAtTheEnds() {
        inside("<0", "<0", 1);
        inside("<0", "1.0.0", 1);
        inside("1.0.0", "<0", 0);
        inside("0.0.0-0", "<0", 0);
        inside("*", "*", 1);
        inside("*", ">0.0.0-0", 0);
        inside(">0.0.0-0", "*", 1);
        inside(">=1.0.0 <2.0.0", ">=1.0.0 <2.0.0", 1);
        inside(">=1.0.0 <2.0.0", ">1.0.0 <2.0.0", 0);
        inside(">=1.0.0 <=2.0.0", ">=1.0.0 <2.0.0", 0);
        inside(">1.0.0 <2.0.0", ">=1.0.0 <=2.0.0", 1);
        inside(">=1.0.0-a.b.c.d", ">1.0.0-a.b.c.d", 0);
        inside(">1.0.0-a.b.c.d", ">=1.0.0-a.b.c.d", 1);
        inside(">1.0.0", ">=1.0.1-0", 1);
        inside(">=1.0.1-0", ">1.0.0", 1);
        inside(">=1.0.0", "<=" + BIG + "." + BIG + "." + BIG, 0);
        inside(">" + BIG + "." + BIG + "." + BIG, ">" + BIG + "." + BIG, 0);
        inside(">" + BIG, ">" + BIG + "." + BIG, 1);
        inside(lone(0, 16, 2), lone(0, 16, 2), 1);
        inside(lone(0, 15, 2), lone(0, 16, 2), 1);
        inside(lone(0, 16, 2), lone(0, 15, 2), 0);
        inside(lone(0, 16, 2), lone(2, 15, 2), 0);
        inside(lone(0, 16, 2), lone(1, 16, 2), 0);
    }

    private static void inside(String a, String b, int answer) {
        RangeResolver x = new RangeResolver();
        DUE.is("range a", 0, Due.range(x, 0, a));
        DUE.is("range b", 0, Due.range(x, 15, b));
        DUE.is("inside(" + a + ", " + b + ")", answer, x.inside(0, 15));
    }

    /** To the end; blanks may stand around. */
    private static void blanks() {
        for (String blanks : new String[] {" ", "\n", " \n ", " ".repeat(1990)}) {
            is(blanks + "1.0.0", "=1.0.0");
            is("1.0.0" + blanks, "=1.0.0");
            is(">1" + blanks + "<3", ">=2.0.0 <3.0.0-0");
            is("1||" + blanks + "3.0.0", ">=1.0.0 <2.0.0-0 || =3.0.0");
            fault(FORM, blanks, "");
            fault(FORM, "1" + blanks, "a");
        }
        fault(FORM, " ".repeat(1999), "#");
        fault(FORM, " ".repeat(2000), "");
        is(" ".repeat(1999) + "1", ">=1.0.0 <2.0.0-0");
        is("1" + " ".repeat(1999), ">=1.0.0 <2.0.0-0");
        for (String wrong : new String[] {"\t", "\r", "\u0000", "\u00a0", "\u000b", "\u0085"}) {
            fault(FORM, "1", wrong);
            fault(FORM, "", wrong + "1");
        }
    }

    /** A refused range: 1 or 2 and 8 times the place; the slot stays, the tape is empty. */
    private static void faultsLeaveTheSlot() {
        for (int k : new int[] {0, 1, 15}) {
            Twins.keepAllButTape(DUE, "range of no byte", Pasts::solved, x -> x.range(k, 0), FORM);
            Twins.keepAllButTape(DUE, "range of FORM", Pasts::solved, x -> Due.range(x, k, "2 || a"), FORM + 8 * 5);
            Twins.keepAllButTape(DUE, "range of FORM at the end", Pasts::unsolved, x -> Due.range(x, k, "2 ||"), FORM + 8 * 4);
            Twins.keepAllButTape(DUE, "range of TOO MUCH", Pasts::unsolved, x -> Due.range(x, k, "1 2 3 4 5 6 7"), TOO_MUCH + 8 * 12);
            Twins.keepAllButTape(DUE, "range of a 17th ALL", Pasts::none, x -> Due.range(x, k, "1||".repeat(16) + "1"), TOO_MUCH + 8 * 48);
        }
        Twins.keepAllButTape(DUE, "order of no two VERSIONS", Pasts::solved, x -> Due.order(x, "1.0.0 2.0"), 2);
        Twins.keepAllButTape(DUE, "order of no byte", Pasts::unsolved, x -> x.order(0), 2);
        Twins.keepAllButTape(DUE, "order", Pasts::full, x -> Due.order(x, "1.0.0 2.0.0"), -1);
    }

    /** So many VERSIONS, none of which touches another one. */
    private static String lone(int from, int count, int step) {
        StringBuilder text = new StringBuilder();
        for (int i = 0; i < count; i++) {
            text.append(i == 0 ? "" : "||").append(from + i * step).append(".1.1");
        }
        return text.toString();
    }

    private static String wide(int count) {
        StringBuilder text = new StringBuilder();
        for (int i = 0; i < count; i++) {
            text.append(i == 0 ? "" : "||").append(">=" + i + ".0.0 <" + i + ".8.0");
        }
        return text.toString();
    }

    private static String bridges(int count) {
        StringBuilder text = new StringBuilder();
        for (int i = 0; i < count; i++) {
            text.append(i == 0 ? "" : "||").append(">=" + i + ".7.0 <" + (i + 1) + ".1.0");
        }
        return text.toString();
    }

    private static String longest(String first) {
        return BIG + "." + BIG + "." + BIG + "-" + first + "zzzzzzz.zzzzzzzz.zzzzzzzz.zzzzzzzz";
    }

    /** What = (and no OPERATOR), >=, <=, >, <, ^ and ~ of the text are written as. */
    private static void operators(String text, String same, String from, String upTo, String above, String below, String caret, String tilde) {
        String[] written = {same, same, from, upTo, above, below, caret, tilde};
        for (int i = 0; i < OPERATORS.length; i++) {
            is(OPERATORS[i] + text, written[i]);
        }
    }

    private static void is(String text, String written) {
        if (text.length() <= 2000) {
            DUE.is("range \"" + text + "\"", written, Due.range(new RangeResolver(), text));
        }
    }

    /** A fault is due where the second text begins. */
    private static void fault(int kind, String fine, String faulty) {
        DUE.is("range \"" + fine + faulty + "\"", kind + 8 * fine.length(), Due.range(new RangeResolver(), 7, fine + faulty));
    }
}
