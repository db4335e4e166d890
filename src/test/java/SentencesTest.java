import java.util.ArrayList;
import java.util.List;

/** Sentences of the document's terms, each by itself and in their order, as far as no other test is about them alone. */
public final class SentencesTest {
    /** Six for each of ten packages; none has more than three identifiers, so that the next of each can be told. */
    private static final String[] VERSIONS = {
        "0.0.0-0", "0.0.0-0.0", "0.0.0-1", "0.0.0-a", "0.0.0", "0.0.1-0",
        "0.0.1-0.0", "0.0.1", "0.0.2-0", "0.0.9", "0.0.10-0", "0.0.10",
        "0.0.999999999", "0.1.0-0", "0.1.0", "0.1.1-0", "0.9.0", "0.10.0",
        "0.999999999.0", "1.0.0-0", "1.0.0-0.0.0", "1.0.0-0.0.1", "1.0.0-1", "1.0.0-9",
        "1.0.0-10", "1.0.0-99999999", "1.0.0-99999999.0", "1.0.0--", "1.0.0--.0", "1.0.0--0",
        "1.0.0-0a", "1.0.0-A", "1.0.0-Z", "1.0.0-a", "1.0.0-a.0", "1.0.0-a.0.0",
        "1.0.0-a.1", "1.0.0-a.-", "1.0.0-a.a", "1.0.0-a-", "1.0.0-a0", "1.0.0-aa",
        "1.0.0-zzzzzzzz", "1.0.0-zzzzzzzz.0", "1.0.0", "1.0.1-0", "1.0.1-0.0", "1.0.1",
        "1.1.0-0", "1.1.0", "1.2.0", "1.10.0", "2.0.0-0", "2.0.0-0.1",
        "2.0.0", "9.0.0", "10.0.0-0", "10.0.0", "999999999.0.0", "999999999.999999999.999999999"};
    private static final Due DUE = new Due();

    public static void main(String[] args) {
        anyLength();
        nextIsTheLeastAbove();
        fromAndBelow();
        partsOneBehindTheOther();
        tokensAreAsLongAsCanBe();
        blanksBetweenTokens();
        numberedAsTheyStand();
        oneReleaseOrNone();
        whatAChoiceKeeps();
        theSetAlone();
        memoryIsItsOwn();
        DUE.end();
    }

    /** A RANGE is a set of VERSIONS (of these of any length): none that can be told may be in it, and yet it isn't none. */
    private static void anyLength() {
        String[][] ranges = {
            {">1.0.0-a.b.c.zzzzzzzz <1.0.0-a.b.c-", ">=1.0.0-a.b.c.zzzzzzzz.0 <1.0.0-a.b.c-"},
            {">1.0.0-a.b.zzzzzzzz.zzzzzzzz <1.0.0-a.b-", ">=1.0.0-a.b.zzzzzzzz.zzzzzzzz.0 <1.0.0-a.b-"},
            {">1.0.0-zzzzzzzz.zzzzzzzz.zzzzzzzz.zzzzzzzz <1.0.0", ">=1.0.0-zzzzzzzz.zzzzzzzz.zzzzzzzz.zzzzzzzz.0 <1.0.0"},
            {">1.0.0-a.b.c.99999999 <1.0.0-a.b.c.-", ">=1.0.0-a.b.c.99999999.0 <1.0.0-a.b.c.-"},
            {">0.0.999999999 <0.1.0-0", ">=0.0.1000000000-0 <0.1.0-0"},
            {">0.999999999.999999999 <1", ">=0.999999999.1000000000-0 <1.0.0-0"},
            {">0.999999999 <1", ">=0.1000000000.0 <1.0.0-0"},
            {">999999999", ">=1000000000.0.0"}};
        for (String[] range : ranges) {
            RangeResolver x = new RangeResolver();
            DUE.is("range of " + range[0], 0, Due.range(x, 1, range[0]));
            DUE.is("range of " + range[0], range[1], Due.written(x, 0, 1));
            DUE.is("stretches of " + range[0], 1, x.count(17));
            DUE.is("none", 0, x.combine(2, 0, 0, 2));
            DUE.is("inside none, " + range[0], 0, x.inside(1, 2));
            // so there are two stretches where it is left out, or one that has no end
            DUE.is("all but " + range[0], range[1].contains(" <") ? 2 : 1, x.combine(2, 0, 1, 2));
            DUE.is("all but both of them", 0, x.combine(0, 1, 2, 3));
            DUE.is("both of them", 1, x.combine(1, 1, 2, 3));
            DUE.is("both of them", "*", Due.written(x, 0, 3));
        }
    }

    /** THE NEXT of a VERSION is the least one above it. */
    private static void nextIsTheLeastAbove() {
        for (String version : VERSIONS) {
            String next = version.contains("-") ? version + ".0"
                : version.replaceFirst("\\d+$", "" + (1 + Integer.parseInt(version.replaceFirst(".*\\.", "")))) + "-0";
            DUE.is("above " + version, ">=" + next, Due.range(new RangeResolver(), ">" + version));
            if (next.matches("(\\d{1,9}\\.){2}\\d{1,9}-.*")) {
                DUE.is("its next", -1, Due.order(new RangeResolver(), version + " " + next));
                for (String other : VERSIONS) {
                    boolean above = Due.order(new RangeResolver(), version + " " + other) == -1;
                    boolean reached = Due.order(new RangeResolver(), next + " " + other) <= 0;
                    DUE.is(next + " up to " + other + ", which is above " + version, above ? 1 : 0, reached ? 1 : 0);
                }
            }
        }
    }

    /** FROM V, BELOW V: all that are not below V; all that are. */
    private static void fromAndBelow() {
        StringBuilder text = new StringBuilder();
        for (int i = 0; i < VERSIONS.length; i++) {
            text.append(i % 6 == 0 ? "package p" + i + "{" : "").append(VERSIONS[i]).append(i % 6 == 5 ? ";}" : ";");
        }
        for (int i = 0; i < VERSIONS.length; i++) {
            for (String operator : new String[] {">=", "<", ">", "<=", "="}) {
                RangeResolver x = Due.withRegistry(text.toString());
                DUE.is("range", 0, Due.range(x, 3, operator + VERSIONS[i] + "+b"));
                for (int r = 0; r < VERSIONS.length; r++) {
                    boolean in = r < i ? operator.contains("<") : r > i ? operator.contains(">") : operator.contains("=");
                    DUE.is(VERSIONS[r] + " in " + operator + VERSIONS[i], in ? 1 : 0, x.holds(3, r));
                }
            }
        }
    }

    /** ALL: one to six PARTS, one behind the other: no blank need stand between. */
    private static void partsOneBehindTheOther() {
        is(">1<3", ">=2.0.0 <3.0.0-0");
        is("^1~1.2", ">=1.2.0 <1.3.0-0");
        is("1.2.3=1.2.3>=1", "=1.2.3");
        is("**1.2.3*<=2*", "=1.2.3");
        is("1*||*2||3.0.0", ">=1.0.0 <2.0.0-0 || >=2.0.0 <3.0.0-0 || =3.0.0");
        is("<1.0.0-a<1.0.0-b", "<1.0.0-a");
        is("<1.0.0-a||<1.0.0-b", "<1.0.0-b");
    }

    /** TOKENS, each as long as can be. */
    private static void tokensAreAsLongAsCanBe() {
        is(">=1", ">=1.0.0");
        is("12", ">=12.0.0 <13.0.0-0");
        for (String none : new String[] {"=>1", ">==1", "<<1", "><1", "==1", "^=1", "~>1", "^^1", "> =1", ">= 1", "^ 1", "1.0.0-a.b.c.d.e", "1.0.0+", "1.0.0a"}) {
            DUE.is("range of " + none, 1, Due.range(new RangeResolver(), 0, none));
        }
        DUE.is("|| and ||", 1 + 8 * 3, Due.range(new RangeResolver(), 0, "1||||2"));
        DUE.is("|| and |", 1 + 8 * 3, Due.range(new RangeResolver(), 0, "1|||2"));
        DUE.is("| and |", 1 + 8, Due.range(new RangeResolver(), 0, "1| |2"));
        DUE.is("1 and 2 are two", "none", Due.range(new RangeResolver(), "1 2"));
        // b1 is a NAME, so no RANGE stands behind it; b is one, and =1 stands behind it
        DUE.is("b1", 1 + 8 * 18, Due.read(new RangeResolver(), "package b{}want b1;"));
        DUE.is("b=1", 0, Due.read(new RangeResolver(), "package b{}want b=1;"));
        DUE.is("b 1", 0, Due.read(new RangeResolver(), "package b{}want b 1;"));
        DUE.is("b1.0: b1, and what is no TOKEN", 1 + 8 * 18, Due.read(new RangeResolver(), "package b{}want b1.0;"));
        DUE.is("1needs: no VERSION", 1 + 8 * 10, Due.read(new RangeResolver(), "package b{1.0.0needs b*;}"));
        DUE.is("*needs: two TOKENS", 0, Due.read(new RangeResolver(), "package b{1.0.0 needs b*needs b*;}"));
    }

    /** Blanks (32, 10) may stand between TOKENS: any, any number, ahead of all and behind all. */
    private static void blanksBetweenTokens() {
        String[] tokens = {"package", " ", "a", "", "{", "", "1.0.0-a", " ", "needs", " ", "b", "", "*", "", "||", "", "<2", "", ">=1.x", " ", "clash", " ", "b", " ",
            "2.0.0", "", ";", "", "2.0.0+b", "", ";", "", "}", "", "package", " ", "b", "", "{", "", "}", "", "want", " ", "a", "", "^1", "", ";"};
        for (String blanks : new String[] {"", " ", "\n", " \n", "\n\n  ", " ".repeat(30)}) {
            StringBuilder text = new StringBuilder(blanks);
            for (int i = 0; i < tokens.length; i++) {
                text.append(i % 2 == 0 || blanks.isEmpty() ? tokens[i] : blanks);
            }
            RangeResolver x = Due.withRegistry(text.append(blanks).toString());
            DUE.is("releases", 2, x.count(1));
            DUE.is("release 1", "a 2.0.0+b", Due.written(x, 1, 1));
            DUE.is("constraint 0", "a 1.0.0-a needs b *", Due.written(x, 2, 0));
            DUE.is("constraint 1", "a 1.0.0-a clash b =2.0.0", Due.written(x, 2, 1));
            DUE.is("constraint 2", "want a >=1.0.0 <2.0.0-0", Due.written(x, 2, 2));
        }
    }

    /** RELEASES are numbered from 0 on as they stand; CONSTRAINTS, too: each LINK, then each WANT, as they stand. */
    private static void numberedAsTheyStand() {
        RangeResolver x = Due.withRegistry("package b{2.0.0 clash a 3;1.0.0;}package a{}package c{0.1.0 needs b 2 clash c 1;9.0.0 needs a 4;}want c*;want a 5;want c 6;");
        String[] releases = {"b 2.0.0", "b 1.0.0", "c 0.1.0", "c 9.0.0"};
        String[] constraints = {"b 2.0.0 clash a >=3.0.0 <4.0.0-0", "c 0.1.0 needs b >=2.0.0 <3.0.0-0", "c 0.1.0 clash c >=1.0.0 <2.0.0-0",
            "c 9.0.0 needs a >=4.0.0 <5.0.0-0", "want c *", "want a >=5.0.0 <6.0.0-0", "want c >=6.0.0 <7.0.0-0"};
        for (int r = 0; r < releases.length; r++) {
            DUE.is("release " + r, releases[r], Due.written(x, 1, r));
        }
        for (int c = 0; c < constraints.length; c++) {
            DUE.is("constraint " + c, constraints[c], Due.written(x, 2, c));
        }
        DUE.is("releases", releases.length, x.count(1));
        DUE.is("constraints", constraints.length, x.count(2));
    }

    /** A CHOICE has of each PACKAGE one RELEASE or none. */
    private static void oneReleaseOrNone() {
        DUE.is("choices", 1, Due.withRegistry("package a{}package b{}").solutions(1000));
        DUE.is("choices", 2 * 3, Due.withRegistry("package a{1.0.0;}package b{1.0.0;2.0.0;}package c{}").solutions(1000));
        DUE.is("choices", 7 * 7 * 7, Due.withRegistry("package a{0.0.0;1.0.0;2.0.0;3.0.0;4.0.0;5.0.0;}package b{0.0.0;1.0.0;2.0.0;3.0.0;4.0.0;5.0.0;}"
            + "package c{0.0.0;1.0.0;2.0.0;3.0.0;4.0.0;5.0.0;}").solutions(1000));
    }

    /** What a WANT, a needs LINK and a clash LINK leave of each choice of two packages, which wants and clashes pin down. */
    private static void whatAChoiceKeeps() {
        String[] links = {"", "needs b=1", "clash b=1"};
        String[] wants = {"", "want b=1;"};
        for (int a = 0; a < 2; a++) {
            for (int b = 0; b < 3; b++) {
                for (int link = 0; link < links.length; link++) {
                    for (int want = 0; want < wants.length; want++) {
                        // z is wanted: it has a, b at the release asked for, or clashes with them
                        String pins = (a == 0 ? " clash a*" : " needs a*") + (b == 0 ? " clash b*" : " needs b=" + b);
                        String text = "package a{1.0.0 " + links[link] + ";}package b{1.0.0;2.0.0;}package z{1.0.0" + pins + ";}want z*;" + wants[want];
                        boolean kept = (want == 0 || b == 1) && (a == 0 || link == 0 || (link == 1) == (b == 1));
                        RangeResolver x = Due.withRegistry(text);
                        DUE.is("solutions of " + text, kept ? 1 : 0, x.solutions(1000));
                        DUE.is("resolve of " + text, kept ? 1 : 0, x.resolve(false));
                        DUE.is("chosen(0) of " + text, kept && a == 1 ? 0 : -1, x.chosen(0));
                        DUE.is("chosen(1) of " + text, kept && b > 0 ? b : -1, x.chosen(1));
                    }
                }
            }
        }
    }

    /** THE REASON: a set of CONSTRAINTS with which alone there is no SOLUTION, and there is one without any of them. */
    private static void theSetAlone() {
        String[] packages = {"package a{1.0.0%s;2.0.0%s;}", "package b{1.0.0%s;2.0.0;}", "package c{1.0.0;}"};
        String[] constraints = {" needs b=2", " clash c*", " needs a=1", "want a*;", "want c<2;", "want b=1;", "want b*;"};
        RangeResolver x = Due.withRegistry(told(packages, constraints, 0b1111111));
        DUE.is("resolve", 0, x.resolve(false));
        int set = 0;
        for (int i = 0; i < x.count(5); i++) {
            set |= 1 << x.reason(i);
        }
        DUE.is("resolve with these alone", 0, Due.withRegistry(told(packages, constraints, set)).resolve(false));
        for (int i = 0; i < x.count(5); i++) {
            DUE.is("resolve without " + x.reason(i), 1, Due.withRegistry(told(packages, constraints, set & ~(1 << x.reason(i)))).resolve(false));
        }
    }

    /** The registry with those of the constraints whose bits are set: the first three are links. */
    private static String told(String[] packages, String[] constraints, int set) {
        List<String> kept = new ArrayList<>();
        for (int i = 0; i < constraints.length; i++) {
            kept.add((set >> i & 1) == 1 ? constraints[i] : "");
        }
        return String.format(String.join("", packages), kept.get(0), kept.get(1), kept.get(2)) + String.join("", kept.subList(3, kept.size()));
    }

    /** All memory is the class's own: what one object was told another one has not. */
    private static void memoryIsItsOwn() {
        RangeResolver one = Due.withRegistry("package a{1.0.0;}want a*;");
        DUE.is("range", 0, Due.range(one, 0, "1.2.3"));
        DUE.is("resolve", 1, one.resolve(false));
        DUE.is("write", 6, one.write(0, 0));
        Due.feed(one, "1.0.0 2.0.0");
        RangeResolver other = new RangeResolver();
        for (int what = 0; what < 6; what++) {
            DUE.is("count(" + what + ") of a new object", 0, other.count(what));
        }
        DUE.is("octet(0) of a new object", -1, other.octet(0));
        DUE.is("order(11) of a new object", -2, other.order(11));
        DUE.is("slot 0 of a new object", "*", Due.written(other, 0, 0));
        DUE.is("read", 0, Due.read(other, "package b{}want b*;"));
        DUE.is("resolve", 0, other.resolve(false));
        DUE.is("chosen(0) of the first one", 0, one.chosen(0));
        DUE.is("count(5) of the first one", 0, one.count(5));
        DUE.is("what was written of the first one", "=1.2.3", Due.page(one, 6));
        DUE.is("order(11) of the first one", -1, one.order(11));
        DUE.is("release 0 of the first one", "a 1.0.0", Due.written(one, 1, 0));
    }

    private static void is(String text, String written) {
        DUE.is("range \"" + text + "\"", written, Due.range(new RangeResolver(), text));
    }
}
