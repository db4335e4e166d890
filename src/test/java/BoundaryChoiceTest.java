/** PART 3 and promises 11 to 15: PACKAGES without RELEASES, that nobody wants, the latest SOLUTION, the REASON, how many there are. */
public final class BoundaryChoiceTest {
    private static final int NONE = RangeResolver.NONE;
    private static final Due DUE = new Due();

    public static void main(String[] args) {
        noPackage();
        packageWithoutReleases();
        packageThatNobodyWants();
        wantsOfOnePackage();
        emptyAndFullRanges();
        linksToTheOwnPackage();
        rangeEndsAtTheVersion();
        greatestOfSix();
        tenPackages();
        lockedWithoutASolution();
        lockedAfterASolution();
        lockedAcrossTexts();
        smallestReasons();
        reasonsGoFromTheLast();
        reasonOfAll();
        reasonBeforeAndAfter();
        fromNoneToAThousandSolutions();
        solutionsFindNothing();
        whyAtEachStep();
        whyOfOneStep();
        DUE.end();
    }

    private static void noPackage() {
        RangeResolver x = solved("");
        DUE.is("solutions of no package: the choice of nothing", 1, x.solutions(1000));
        DUE.is("chosen releases", 0, x.count(4));
        DUE.is("reason", 0, x.count(5));
    }

    /** A WANT or a needs LINK of it can't be kept, a clash LINK always is. */
    private static void packageWithoutReleases() {
        solved("package a{}", NONE);
        unsolved("package a{}want a*;", 0);
        unsolved("package a{}want a<0;", 0);
        unsolved("package a{1.0.0 needs b*;}package b{}want a*;", 0, 1);
        solved("package a{1.0.0 needs b*;}package b{}", NONE, NONE);
        solved("package a{1.0.0;2.0.0 needs b*;}package b{}want a*;", 0, NONE);
        solved("package a{1.0.0;2.0.0 clash b*;}package b{}want a*;", 1, NONE);
        // one step inside: it has one release
        solved("package a{1.0.0;}want a*;", 0);
        unsolved("package a{1.0.0;}want a<0;", 0);
        solved("package a{1.0.0;2.0.0 needs b*;}package b{1.0.0;}want a*;", 1, 2);
        solved("package a{1.0.0;2.0.0 clash b*;}package b{1.0.0;}want a*;", 1, NONE);
    }

    /** Without a WANT of it: none, then its RELEASES from the greatest down. */
    private static void packageThatNobodyWants() {
        solved("package a{1.0.0;2.0.0;}", NONE);
        solved("package a{1.0.0;2.0.0;}want a*;", 1);
        solved("package a{1.0.0;3.0.0;2.0.0;}package b{1.0.0 needs a*;}want b*;", 1, 3);
        solved("package a{1.0.0;3.0.0;2.0.0;}package b{1.0.0 needs a<3;}want b*;", 2, 3);
        // none of a comes ahead of the greatest of b, which stands behind it
        solved("package a{1.0.0;}package b{2.0.0 needs a*;1.0.0;}want b*;", NONE, 2);
        solved("package b{2.0.0 needs a*;1.0.0;}package a{1.0.0;}want b*;", 0, 2);
        // a circle of needs that no WANT reaches
        solved("package a{1.0.0 needs b*;}package b{1.0.0 needs a*;}package c{1.0.0;}want c*;", NONE, NONE, 2);
        solved("package a{1.0.0 needs b*;}package b{1.0.0 needs a*;}package c{1.0.0 needs a*;}want c*;", 0, 1, 2);
    }

    private static void wantsOfOnePackage() {
        solved("package a{1.0.0;2.0.0;3.0.0;}" + "want a*;".repeat(10), 2);
        solved("package a{1.0.0;2.0.0;3.0.0;}" + "want a*;".repeat(9) + "want a<3;", 1);
        solved("package a{1.0.0;2.0.0;3.0.0;}want a<3;" + "want a*;".repeat(8) + "want a<2;", 0);
        unsolved("package a{1.0.0;2.0.0;3.0.0;}want a=1;" + "want a*;".repeat(8) + "want a=2;", 0, 9);
        unsolved("package a{1.0.0;}" + "want a=2;".repeat(10), 0);
    }

    private static void emptyAndFullRanges() {
        unsolved("package a{1.0.0;}want a<0;", 0);
        solved("package a{1.0.0;2.0.0 needs b<0;}package b{1.0.0;}want a*;", 0, NONE);
        solved("package a{1.0.0;2.0.0 clash b<0;}package b{1.0.0;}want a*;want b*;", 1, 2);
        solved("package a{1.0.0;2.0.0 clash b*;}package b{1.0.0;}want a*;want b*;", 0, 2);
        solved("package a{1.0.0;2.0.0 needs b*;}package b{1.0.0;}want a*;", 1, 2);
        unsolved("package a{2.0.0 needs b<0;}package b{1.0.0;}want a*;", 0, 1);
        unsolved("package a{2.0.0 needs b* clash b*;}package b{1.0.0;}want a*;", 0, 1, 2);
    }

    private static void linksToTheOwnPackage() {
        solved("package a{1.0.0;2.0.0 needs a=2;}want a*;", 1);
        solved("package a{1.0.0;2.0.0 needs a=1;}want a*;", 0);
        solved("package a{1.0.0;2.0.0 clash a=1;}want a*;", 1);
        solved("package a{1.0.0;2.0.0 clash a=2;}want a*;", 0);
        unsolved("package a{1.0.0 clash a=1;2.0.0 needs a=1;}want a*;", 0, 1, 2);
        solved("package a{1.0.0 clash a=1;2.0.0 needs a=1;}", NONE);
        // of the second PACKAGE, and of the last of ten
        solved("package a{1.0.0;}package b{1.0.0;2.0.0 clash b=2;}want b*;", NONE, 1);
        solved("package a{1.0.0;}package b{1.0.0;2.0.0 needs b=1;3.0.0 clash b>2;}want b*;", NONE, 1);
        unsolved("package a{1.0.0;}package b{1.0.0 clash b*;}want a*;want b*;", 0, 2);
        String nine = "package a{}package b{}package c{}package d{}package e{}package f{}package g{}package h{}package i{}";
        solved(nine + "package j{1.0.0;2.0.0 clash j=2;}want j*;", NONE, NONE, NONE, NONE, NONE, NONE, NONE, NONE, NONE, 0);
        unsolved(nine + "package j{1.0.0 needs j=2;2.0.0 clash j=2;}want j*;", 0, 1, 2);
    }

    /** A VERSION that is the end of the RANGE, one step inside it, one step outside it. */
    private static void rangeEndsAtTheVersion() {
        for (String v : new String[] {"0.0.0-0", "0.0.0", "1.0.0-a.b.c.d", "1.0.0", "999999999.999999999.999999999"}) {
            String text = "package a{" + v + "+b;}want a";
            solved(text + ">=" + v + ";", 0);
            solved(text + "<=" + v + ";", 0);
            solved(text + "=" + v + ";", 0);
            solved(text + " " + v + "+c;", 0);
            solved(text + "^" + v + ";", 0);
            solved(text + "~" + v + ";", 0);
            unsolved(text + ">" + v + ";", 0);
            unsolved(text + "<" + v + ";", 0);
            solved("package a{" + v + " clash a>" + v + " clash a<" + v + ";}want a*;", 0);
            unsolved("package a{" + v + " clash a<=" + v + ";}want a*;", 0, 1);
            unsolved("package a{" + v + " clash a>=" + v + ";}want a*;", 0, 1);
        }
        unsolved("package a{1.0.0-a;}want a 1;", 0);
        solved("package a{1.0.0;}want a 1;", 0);
        solved("package a{1.999999999.999999999;}want a 1;", 0);
        unsolved("package a{2.0.0-0;}want a 1;", 0);
        unsolved("package a{2.0.0;}want a 1;", 0);
        unsolved("package a{2.0.0-0;}want a>1;", 0);
        solved("package a{2.0.0;}want a>1;", 0);
    }

    private static void greatestOfSix() {
        String[] versions = {"2.0.0", "10.0.0-0", "9.9.9", "10.0.0-a", "1.0.0", "10.0.0-9"};
        int[] falling = {3, 5, 1, 2, 0, 4};
        String text = "package a{" + String.join(";", versions) + ";}";
        String less = "*";
        for (int release : falling) {
            solved(text + "want a" + less + ";", release);
            less = "<" + versions[release];
        }
        unsolved(text + "want a" + less + ";", 0);
    }

    /** Ten PACKAGES in one chain, the first wanted, each but the last needs the one behind it. */
    private static void tenPackages() {
        int[] all = {0, 1, 2, 3, 4, 5, 6, 7, 8, 9};
        int[] none = {NONE, NONE, NONE, NONE, NONE, NONE, NONE, NONE, NONE, NONE};
        RangeResolver x = solved(chain(10) + "want a*;", all);
        DUE.is("chosen releases", 10, x.count(4));
        for (int p = 0; p < 10; p++) {
            DUE.is("why(" + p + ")", p == 0 ? 9 : p - 1, x.why(p));
        }
        DUE.is("chosen releases, nobody wanted", 0, solved(chain(10), none).count(4));
        none[9] = 9;
        DUE.is("chosen releases, the last wanted", 1, solved(chain(10) + "want j*;", none).count(4));
        unsolved(chain(10).replace("package j{1.0.0;}", "package j{}") + "want a*;", all);
        unsolved(chain(10) + "want a*;want j>1;", 10);
    }

    /** LOCKED: no SOLUTION was found since the TEXT, so that it is as without. */
    private static void lockedWithoutASolution() {
        RangeResolver x = Due.withRegistry("package a{1.0.0;2.0.0;}package b{1.0.0;}want a*;");
        DUE.is("solutions", 4, x.solutions(1000));
        DUE.is("resolve(true)", 1, x.resolve(true));
        DUE.is("chosen(0)", 1, x.chosen(0));
        DUE.is("chosen(1)", NONE, x.chosen(1));
        RangeResolver none = Due.withRegistry("package a{}want a*;");
        for (int round = 0; round < 3; round++) {
            DUE.is("resolve(true)", 0, none.resolve(true));
            DUE.is("reason(0)", 0, none.reason(0));
            DUE.is("resolve(false)", 0, none.resolve(false));
            DUE.is("reason(0)", 0, none.reason(0));
        }
        RangeResolver empty = new RangeResolver();
        DUE.is("resolve(true) of a new object", 1, empty.resolve(true));
        DUE.is("resolve(true) once more", 1, empty.resolve(true));
    }

    private static void lockedAfterASolution() {
        RangeResolver x = Due.withRegistry("package a{1.0.0;2.0.0 needs c*;}package b{1.0.0;}package c{1.0.0;3.0.0;2.0.0;}want a*;");
        for (boolean locked : new boolean[] {false, true, true, false, true}) {
            DUE.is("resolve(" + locked + ")", 1, x.resolve(locked));
            DUE.is("chosen(0)", 1, x.chosen(0));
            DUE.is("chosen(1)", NONE, x.chosen(1));
            DUE.is("chosen(2)", 4, x.chosen(2));
            DUE.is("chosen releases", 2, x.count(4));
        }
    }

    /** The latest SOLUTION counts since the TEXT alone; a refused TEXT is none. */
    private static void lockedAcrossTexts() {
        RangeResolver x = Due.withRegistry("package a{1.0.0;2.0.0;}want a<2;");
        DUE.is("resolve(false)", 1, x.resolve(false));
        DUE.is("chosen(0)", 0, x.chosen(0));
        DUE.is("a refused text", 1 + 8 * 11, Due.read(x, "package a{}a"));
        DUE.is("what was found stays", 0, x.chosen(0));
        DUE.is("a text refused for its length", -1, x.read(1));
        DUE.is("what was found stays", 0, x.chosen(0));
        DUE.is("resolve(true)", 1, x.resolve(true));
        DUE.is("chosen(0)", 0, x.chosen(0));
        DUE.is("a new text", 0, Due.read(x, "package a{1.0.0;2.0.0;}want a*;"));
        DUE.is("chosen(0), nothing was found", NONE, x.chosen(0));
        DUE.is("resolve(true)", 1, x.resolve(true));
        DUE.is("chosen(0), the greatest", 1, x.chosen(0));
        DUE.is("a text with a package more", 0, Due.read(x, "package b{1.0.0;}package a{3.0.0;1.0.0;2.0.0;}want a*;"));
        DUE.is("resolve(true)", 1, x.resolve(true));
        DUE.is("chosen(0)", NONE, x.chosen(0));
        DUE.is("chosen(1)", 1, x.chosen(1));
    }

    private static void smallestReasons() {
        unsolved("package a{}want a*;", 0);
        unsolved("package a{}package b{1.0.0 needs a*;}want b*;want a*;", 0, 1);
        unsolved("package a{}package b{1.0.0;}want b*;want a*;", 1);
        unsolved("package a{1.0.0;}want a=2;", 0);
        unsolved("package a{1.0.0;2.0.0;}want a=1;want a=2;", 0, 1);
    }

    /** From the last CONSTRAINT to the first each is left out if there is none without it. */
    private static void reasonsGoFromTheLast() {
        unsolved("package a{}" + "want a*;".repeat(10), 0);
        unsolved("package a{1.0.0;2.0.0;}" + "want a*;".repeat(8) + "want a=1;want a=2;", 8, 9);
        unsolved("package a{1.0.0;2.0.0;}want a=1;want a=2;" + "want a*;".repeat(8), 0, 1);
        unsolved("package a{1.0.0;2.0.0;}want a=2;want a=1;want a=2;want a=1;", 0, 1);
        // the last want alone would do, and so would the first two: the last one goes first
        unsolved("package a{1.0.0;2.0.0;}want a=1;want a=2;want a=3;", 0, 1);
        unsolved("package a{1.0.0;2.0.0;}want a=3;want a=1;want a=2;", 0);
        unsolved("package a{1.0.0 needs b=1 needs b=2;}package b{1.0.0;2.0.0;3.0.0;}want a*;want b=3;", 0, 1, 2);
    }

    /** None can be left out: the REASON has all CONSTRAINTS. */
    private static void reasonOfAll() {
        String text = "package a{1.0.0 clash b*;2.0.0 clash b*;3.0.0 clash b*;4.0.0 clash b*;5.0.0 clash b*;6.0.0 clash b*;}package b{1.0.0;}";
        unsolved(text + "want a*;want b*;", 0, 1, 2, 3, 4, 5, 6, 7);
        solved(text + "want a*;", 5, NONE);
        solved(text + "want b*;", NONE, 6);
        solved(text.replace("1.0.0 clash b*", "1.0.0") + "want a*;want b*;", 0, 6);
    }

    private static void reasonBeforeAndAfter() {
        RangeResolver x = Due.withRegistry("package a{}want a*;");
        DUE.is("count(5), nothing found yet", 0, x.count(5));
        DUE.is("reason(0), nothing found yet", NONE, x.reason(0));
        DUE.is("resolve", 0, x.resolve(false));
        DUE.is("reason(0)", 0, x.reason(0));
        DUE.is("a refused text", 1, Due.read(x, "}"));
        DUE.is("reason(0) stays", 0, x.reason(0));
        DUE.is("count(5) stays", 1, x.count(5));
        DUE.is("the same text again", 0, Due.read(x, "package a{}want a*;"));
        DUE.is("reason(0), nothing found", NONE, x.reason(0));
        DUE.is("count(5), nothing found", 0, x.count(5));
        DUE.is("a text that has a solution", 0, Due.read(x, "package a{1.0.0;}want a*;"));
        DUE.is("resolve", 1, x.resolve(false));
        DUE.is("reason(0)", NONE, x.reason(0));
        DUE.is("count(5)", 0, x.count(5));
    }

    /** At most most are counted: one less, as many and one more than there are, and than may be asked for. */
    private static void fromNoneToAThousandSolutions() {
        counts("package a{}want a*;", 0);
        counts("package a{}", 1);
        counts("package a{1.0.0;}", 2);
        counts("package a{1.0.0;}want a*;", 1);
        counts("package a{0.0.0;1.0.0;2.0.0;3.0.0;4.0.0;5.0.0;}", 7);
        counts(nearAThousand(""), 999);
        counts(nearAThousand("6.0.0 clash b* clash c* clash d* clash e*;"), 1000);
        counts(nearAThousand("6.0.0 clash b>1 clash c* clash d* clash e*;"), 1001);
        counts(nearAThousand("6.0.0;"), 999 + 7 * 7 * 7 * 7);
    }

    /** A package whose releases leave 343, 343, 294, 7 and 12 choices of four others, and what more is told. */
    private static String nearAThousand(String more) {
        StringBuilder text = new StringBuilder("package a{1.0.0 clash e*;2.0.0 clash e*;3.0.0 needs d* clash e*;");
        text.append("4.0.0 clash c* clash d* clash e*;5.0.0 needs b* clash c>1 clash d* clash e*;").append(more).append('}');
        for (char name = 'b'; name <= 'e'; name++) {
            text.append("package ").append(name).append("{1.0.0;2.0.0;3.0.0;4.0.0;5.0.0;6.0.0;}");
        }
        return text.append("want a*;").toString();
    }

    private static void counts(String text, int solutions) {
        for (int most : new int[] {1, 2, solutions - 1, solutions, solutions + 1, 998, 999, 1000}) {
            if (most >= 1 && most <= 1000) {
                DUE.is("solutions(" + most + ") of " + text, Math.min(most, solutions), Due.withRegistry(text).solutions(most));
            }
        }
        DUE.is("solutions(0) of " + text, NONE, Due.withRegistry(text).solutions(0));
        DUE.is("solutions(1001) of " + text, NONE, Due.withRegistry(text).solutions(1001));
    }

    /** It counts, and finds nothing: what the latest resolve() found stays. */
    private static void solutionsFindNothing() {
        RangeResolver x = Due.withRegistry("package a{1.0.0;2.0.0;}want a*;");
        DUE.is("solutions(1)", 1, x.solutions(1));
        DUE.is("count(4)", 0, x.count(4));
        DUE.is("chosen(0)", NONE, x.chosen(0));
        DUE.is("resolve", 1, x.resolve(false));
        DUE.is("solutions(1000)", 2, x.solutions(1000));
        DUE.is("chosen(0)", 1, x.chosen(0));
        RangeResolver none = Due.withRegistry("package a{}want a*;want a=1;");
        DUE.is("solutions(1000)", 0, none.solutions(1000));
        DUE.is("count(5)", 0, none.count(5));
        DUE.is("resolve", 0, none.resolve(false));
        DUE.is("solutions(1000)", 0, none.solutions(1000));
        DUE.is("count(5)", 1, none.count(5));
    }

    /** The lowest WANT of it, else the LINK with the least steps, of these the lowest. */
    private static void whyAtEachStep() {
        why("package a{1.0.0;}" + "want a*;".repeat(10), 0);
        why("package a{1.0.0;}package b{1.0.0;}want b*;want a*;want a*;", 1, 0);
        // a WANT (0 steps) is ahead of a LINK that stands lower
        why("package a{1.0.0 needs b*;}package b{1.0.0;}want a*;want b*;", 1, 2);
        why("package a{1.0.0 needs b*;}package b{1.0.0;}want a*;", 1, 0);
        // the lower one of two LINKS of one step
        why("package a{1.0.0 needs c*;}package b{1.0.0 needs c*;}package c{1.0.0;}want b*;want a*;", 3, 2, 0);
        why("package a{1.0.0 clash c=2 needs c=1 needs c*;}package c{1.0.0;}want a*;", 3, 1);
        // one step by a higher LINK is ahead of two steps by a lower one
        why("package a{1.0.0 needs c*;}package b{1.0.0 needs a* needs c*;}package c{1.0.0;}want b*;", 1, 3, 2);
        // two steps by a higher LINK, three by a lower one
        why("package d{1.0.0 needs e*;}package c{1.0.0 needs d*;}package a{1.0.0 needs c* needs b*;}package b{1.0.0 needs e*;}"
            + "package e{1.0.0;}want a*;", 1, 2, 5, 3, 4);
        // LINKS of RELEASES that aren't chosen don't count
        why("package a{1.0.0 needs b*;2.0.0 needs b*;}package b{1.0.0;}want a*;", 2, 1);
        why("package a{2.0.0 needs b*;1.0.0 needs b*;}package b{1.0.0;}want a*;", 2, 0);
    }

    /** NONE: it's not chosen, or nothing was found. */
    private static void whyOfOneStep() {
        why("package a{1.0.0;}package b{1.0.0;}package c{}want a*;", 0, NONE, NONE);
        why("package a{1.0.0 clash b*;}package b{1.0.0;}want a*;", 1, NONE);
        RangeResolver x = Due.withRegistry("package a{1.0.0;}want a*;");
        DUE.is("why(0), nothing found yet", NONE, x.why(0));
        DUE.is("resolve", 1, x.resolve(false));
        DUE.is("why(0)", 0, x.why(0));
        DUE.is("a refused text", 4 + 8 * 5, Due.read(x, "want a*;"));
        DUE.is("why(0) stays", 0, x.why(0));
        DUE.is("a new text", 0, Due.read(x, "package a{1.0.0;}want a>1;"));
        DUE.is("why(0), nothing found", NONE, x.why(0));
        DUE.is("resolve", 0, x.resolve(false));
        DUE.is("why(0), there is no solution", NONE, x.why(0));
    }

    private static String chain(int packages) {
        StringBuilder text = new StringBuilder();
        for (int p = 0; p < packages; p++) {
            text.append("package ").append((char) ('a' + p)).append("{1.0.0");
            text.append(p == packages - 1 ? "" : " needs " + (char) ('b' + p) + "*").append(";}");
        }
        return text.toString();
    }

    private static void why(String text, int... why) {
        RangeResolver x = Due.withRegistry(text);
        DUE.is("resolve of " + text, 1, x.resolve(false));
        for (int p = 0; p < why.length; p++) {
            DUE.is("why(" + p + ") of " + text, why[p], x.why(p));
        }
        DUE.is("why(" + why.length + ") of " + text, NONE, x.why(why.length));
    }

    /** There is a solution, so no reason. */
    private static RangeResolver solved(String text, int... chosen) {
        RangeResolver x = Due.withRegistry(text);
        DUE.is("resolve of " + text, 1, x.resolve(false));
        int sum = 0;
        for (int p = 0; p < chosen.length; p++) {
            DUE.is("chosen(" + p + ") of " + text, chosen[p], x.chosen(p));
            sum += chosen[p] == NONE ? 0 : 1;
        }
        DUE.is("chosen(" + chosen.length + ") of " + text, NONE, x.chosen(chosen.length));
        DUE.is("chosen releases of " + text, sum, x.count(4));
        DUE.is("count(5) of " + text, 0, x.count(5));
        DUE.is("reason(0) of " + text, NONE, x.reason(0));
        return x;
    }

    /** There is none: nothing is chosen, and the reason is this. */
    private static void unsolved(String text, int... reason) {
        RangeResolver x = Due.withRegistry(text);
        DUE.is("resolve of " + text, 0, x.resolve(false));
        DUE.is("count(5) of " + text, reason.length, x.count(5));
        for (int i = 0; i < reason.length; i++) {
            DUE.is("reason(" + i + ") of " + text, reason[i], x.reason(i));
        }
        DUE.is("reason(" + reason.length + ") of " + text, NONE, x.reason(reason.length));
        DUE.is("chosen releases of " + text, 0, x.count(4));
        DUE.is("chosen(0) of " + text, NONE, x.chosen(0));
        DUE.is("why(0) of " + text, NONE, x.why(0));
        DUE.is("solutions of " + text, 0, x.solutions(1000));
    }
}
