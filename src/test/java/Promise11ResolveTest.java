public final class Promise11ResolveTest {
    private static final Due DUE = new Due();

    public static void main(String[] args) {
        wantedOnesAreTheGreatest();
        othersAreLeftOut();
        packagesAsTheyStand();
        clashes();
        linksToTheOwnPackage();
        chainsOfNeeds();
        locked();
        none();
        theLargest();
        DUE.end();
    }

    private static void wantedOnesAreTheGreatest() {
        is("package a{1.0.0;3.0.0-a;2.0.0;}want a*;", 1);
        is("package a{1.0.0;3.0.0-a;2.0.0;}want a<3.0.0-0;", 2);
        is("package a{1.0.0;3.0.0-a;2.0.0;}want a*;want a<=1;", 0);
        is("package a{10.0.0;9.0.0;}want a*;", 0);
        is("package a{1.0.0-2;1.0.0-10;1.0.0-a;1.0.0-B;}want a*;", 2);
    }

    private static void othersAreLeftOut() {
        is("package a{1.0.0;}", -1);
        is("package a{1.0.0;}package b{1.0.0 clash a*;}want b*;", -1, 1);
        is("package a{1.0.0 needs b*;}package b{1.0.0 needs a*;}", -1, -1);
        is("package a{}");
    }

    private static void packagesAsTheyStand() {
        String a = "package a{1.0.0;2.0.0 clash b=2;}";
        String b = "package b{1.0.0;2.0.0;}";
        is(a + b + "want a*;want b*;", 1, 2);
        is(b + a + "want a*;want b*;", 1, 2);
        // c isn't wanted: it is left out, though a is lower then
        is("package c{1.0.0;}package a{1.0.0;2.0.0 needs c*;}want a*;", -1, 1);
        is("package a{1.0.0;2.0.0 needs c*;}package c{1.0.0;}want a*;", 1, 2);
    }

    private static void clashes() {
        is("package a{1.0.0;2.0.0 clash b=1;}package b{1.0.0;}want a*;want b*;", 0, 2);
        is("package a{1.0.0;2.0.0 clash b=2;}package b{1.0.0;}want a*;want b*;", 1, 2);
        is("package a{1.0.0;2.0.0 clash b*;}package b{1.0.0;}want a*;", 1, -1);
        is("package a{1.0.0;}package b{1.0.0;2.0.0 clash a*;}want a*;want b*;", 0, 1);
    }

    private static void linksToTheOwnPackage() {
        is("package a{1.0.0;2.0.0 clash a*;}want a*;", 0);
        is("package a{1.0.0;2.0.0 clash a=1;}want a*;", 1);
        is("package a{1.0.0;2.0.0 needs a=1;}want a*;", 0);
        is("package a{1.0.0;2.0.0 needs a=2;}want a*;", 1);
    }

    private static void chainsOfNeeds() {
        is("package a{1.0.0;}package b{1.0.0 needs a*;}package c{1.0.0 needs b*;2.0.0 needs b=2;}want c*;", 0, 1, 2);
        is("package a{1.0.0;2.0.0;}package b{1.0.0 needs a<2;2.0.0 needs a>=2;}package c{1.0.0 needs b*needs a=1;}want c*;", 0, 2, 4);
        is("package a{1.0.0 needs b*;}package b{1.0.0 needs a*;}want b*;", 0, 1);
    }

    private static void locked() {
        RangeResolver x = Due.withRegistry("package a{1.0.0;2.0.0;}package b{1.0.0;}want a*;");
        DUE.is("nothing found before", 1, x.resolve(true));
        DUE.is("chosen(0)", 1, x.chosen(0));
        DUE.is("chosen(1)", -1, x.chosen(1));
        DUE.is("the same again", 1, x.resolve(true));
        DUE.is("chosen(0)", 1, x.chosen(0));
        DUE.is("chosen(1)", -1, x.chosen(1));
        // what was found ahead of the new text doesn't count
        DUE.is("read", 0, Due.read(x, "package a{3.0.0;2.0.0;}want a*;"));
        DUE.is("resolve", 1, x.resolve(true));
        DUE.is("chosen(0)", 0, x.chosen(0));
        DUE.is("a faulty text", 1, Due.read(x, ";"));
        DUE.is("resolve", 1, x.resolve(true));
        DUE.is("chosen(0)", 0, x.chosen(0));
    }

    private static void none() {
        for (String text : new String[] {"package a{}want a*;", "package a{1.0.0;}want a=2;", "package a{1.0.0;2.0.0;}want a=1;want a=2;",
            "package a{1.0.0 needs b*;}package b{}want a*;", "package a{1.0.0 clash b*;}package b{1.0.0;}want a*;want b*;",
            "package a{1.0.0 needs b*clash b*;}package b{1.0.0;}want a*;"}) {
            RangeResolver x = Due.withRegistry(text);
            DUE.is("resolve of " + text, 0, x.resolve(false));
            DUE.is("resolve of " + text, 0, x.resolve(true));
            DUE.is("chosen(0) of " + text, -1, x.chosen(0));
            DUE.is("a text with a solution", 0, Due.read(x, "package a{1.0.0;}want a*;"));
            DUE.is("its resolve", 1, x.resolve(true));
            DUE.is("reason(0)", -1, x.reason(0));
        }
    }

    /** Ten packages of six releases, each wanted; each of the first nine needs the one behind it. */
    private static void theLargest() {
        StringBuilder text = new StringBuilder();
        int[] chosen = new int[10];
        for (int p = 0; p < 10; p++) {
            text.append("package ").append((char) ('a' + p)).append('{');
            for (int r = 0; r < 6; r++) {
                text.append(r).append(".0.0");
                text.append(p == 9 ? "" : " needs " + (char) ('b' + p) + "<" + (r + 1)).append(';');
            }
            text.append('}');
            chosen[p] = 6 * p + 5;
        }
        is(text.toString());
        String wants = "";
        for (int p = 0; p < 10; p++) {
            wants += "want " + (char) ('a' + p) + "*;";
        }
        is(text + wants, chosen);
        RangeResolver x = Due.withRegistry(text + wants.replace("j*", "j>4").replace("a*", "a<5"));
        DUE.is("resolve", 0, x.resolve(false));
        // a is below 5, so all that it needs are; the last want and the links of the chain between
        DUE.is("the last of the reason", x.count(2) - 1, x.reason(x.count(5) - 1));
        DUE.is("the want of a", x.count(2) - 10, x.reason(x.count(5) - 2));
        DUE.is("five links of each of nine packages, two wants", 47, x.count(5));
    }

    private static void is(String text, int... chosen) {
        RangeResolver x = Due.withRegistry(text);
        for (int round = 0; round < 3; round++) {
            DUE.is("resolve of " + text, 1, x.resolve(round == 1));
            for (int p = 0; p < chosen.length; p++) {
                DUE.is("chosen(" + p + ") of " + text, chosen[p], x.chosen(p));
            }
        }
    }
}
