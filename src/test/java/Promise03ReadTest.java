public final class Promise03ReadTest {
    private static final int FORM = 1;
    private static final int TOO_MUCH = 2;
    private static final int TWICE = 3;
    private static final int UNKNOWN = 4;

    private static final Due DUE = new Due();

    public static void main(String[] args) {
        readsAndNumbers();
        refusesLengths();
        keepsTheFormerOne();
        forms();
        names();
        tooMuch();
        twice();
        unknown();
        theLowestPlace();
        largestText();
        DUE.end();
    }

    private static void readsAndNumbers() {
        RangeResolver x = new RangeResolver();
        DUE.is("empty text", 0, Due.read(x, ""));
        DUE.is("blanks", 0, Due.read(x, " \n "));
        DUE.is("a package without releases", 0, Due.read(x, "package a{}"));
        DUE.is("packages", 1, x.count(0));
        String tight = "package a{1.0.0 needs b*clash b>=1<2||=3;2.0.0;}package b{}want a^1;want a*;";
        DUE.is("tight text", 0, Due.read(x, tight));
        DUE.is("packages", 2, x.count(0));
        DUE.is("releases", 2, x.count(1));
        DUE.is("constraints", 4, x.count(2));
        DUE.is("constraint 1", "a 1.0.0 clash b >=1.0.0 <2.0.0-0 || >=3.0.0 <4.0.0-0", Due.written(x, 2, 1));
        DUE.is("constraint 2", "want a >=1.0.0 <2.0.0-0", Due.written(x, 2, 2));
        DUE.is("a package named later", 0, Due.read(x, "package a {\n 1.0.0\nneeds b\n* ; }\npackage b { }\n"));
    }

    private static void refusesLengths() {
        RangeResolver x = new RangeResolver();
        DUE.is("read(0) of an empty tape", 0, x.read(0));
        DUE.is("read(1) of an empty tape", -1, x.read(1));
        int n = Due.feed(x, "package a{1.0.0;}");
        DUE.is("read(-1)", -1, x.read(-1));
        DUE.is("read(21)", -1, x.read(21));
        DUE.is("read(MAX)", -1, x.read(Integer.MAX_VALUE));
        DUE.is("read(MIN)", -1, x.read(Integer.MIN_VALUE));
        DUE.is("the tape stays", 20, x.count(3));
        DUE.is("read of its first bytes", 0, x.read(n));
        DUE.is("the tape is empty", 0, x.count(3));
        DUE.is("releases", 1, x.count(1));
        DUE.is("behind n nothing counts", 1 + 8 * 17, x.read(Due.feed(x, "package a{}want a||") - 1));
        DUE.is("behind n nothing counts", 0, x.read(Due.feed(x, "package a{};") - 1));
    }

    private static void keepsTheFormerOne() {
        RangeResolver x = Due.withRegistry("package a{1.0.0;2.0.0;}want a*;");
        DUE.is("resolve", 1, x.resolve(false));
        fault(x, FORM, "package b{1.0.0 ", "");
        DUE.is("the tape is empty", 0, x.count(3));
        DUE.is("packages", 1, x.count(0));
        DUE.is("releases", 2, x.count(1));
        DUE.is("chosen(0)", 1, x.chosen(0));
        DUE.is("release 0", "a 1.0.0", Due.written(x, 1, 0));
        DUE.is("a new one", 0, Due.read(x, "package c{3.0.0;}want c*;"));
        DUE.is("nothing was found", -1, x.chosen(0));
        DUE.is("nothing was found", 0, x.count(4));
        DUE.is("release 0", "c 3.0.0", Due.written(x, 1, 0));
    }

    private static void forms() {
        fault(FORM, "", "a{}");
        fault(FORM, "", "{");
        fault(FORM, "package ", "{}");
        fault(FORM, "package ", "package{}");
        fault(FORM, "package ", "1.0.0{}");
        fault(FORM, "package", "");
        fault(FORM, "package a", "");
        fault(FORM, "package a  ", "");
        fault(FORM, "package a ", "}");
        fault(FORM, "package a{", "");
        fault(FORM, "package a{", ";}");
        fault(FORM, "package a{", "1.0;}");
        fault(FORM, "package a{", "1.x;}");
        fault(FORM, "package a{", "=1.0.0;}");
        fault(FORM, "package a{", "*;}");
        fault(FORM, "package a{", "1.0.0needs a*;}");
        fault(FORM, "package a{", "1.0.0-01;}");
        fault(FORM, "package a{1.0.0 ", "2.0.0;}");
        fault(FORM, "package a{1.0.0 ", "}");
        fault(FORM, "package a{1.0.0 needs ", "1.0;}");
        fault(FORM, "package a{1.0.0 needs a", ";}");
        fault(FORM, "package a{1.0.0 needs a*||", ";}");
        fault(FORM, "package a{1.0.0 needs a ", "||*;}");
        fault(FORM, "package a{1.0.0 needs a*", "|*;}");
        fault(FORM, "package a{1.0.0 needs a* ", "b;}");
        fault(FORM, "package a{1.0.0 needs a* ", "want a*;}");
        fault(FORM, "package a{} want a ", ";");
        fault(FORM, "package a{} want a*", "");
        fault(FORM, "package a{} want a* ", "needs a*;");
        fault(FORM, "package a{} want a*; ", "package b{}");
        fault(FORM, "package a{} ", "\t");
        fault(FORM, "package a{} ", "\u00e4");
        fault(FORM, "package a{} ", "#");
        fault(FORM, "package a{}", "\u0000");
        fault(FORM, "package a{}", ";");
        fault(FORM, "package a{} want a", ".0;");
    }

    private static void names() {
        DUE.is("twelve signs", 0, Due.read(new RangeResolver(), "package abcdefgh_j12{}"));
        fault(FORM, "package ", "abcdefghijklm{}");
        fault(FORM, "package ", "A{}");
        fault(FORM, "package ", "_a{}");
        fault(FORM, "package ", "0a{}");
        fault(FORM, "package a", "B{}");
        for (String word : new String[] {"package", "want", "needs", "clash"}) {
            fault(FORM, "package ", word + "{}");
            DUE.is("a name that begins as " + word, 0, Due.read(new RangeResolver(), "package " + word + "s{}"));
        }
        fault(FORM, "", "packagea{}");
        DUE.is("no words", 0, Due.read(new RangeResolver(), "package none{} package packag{} package x{}"));
    }

    private static void tooMuch() {
        String ten = "";
        String wants = "";
        for (int p = 0; p < 10; p++) {
            ten += "package p" + p + "{}";
            wants += "want p0*;";
        }
        String six = "package a{";
        for (int r = 0; r < 6; r++) {
            six += r + ".0.0;";
        }
        String four = "package a{1.0.0";
        for (int l = 0; l < 4; l++) {
            four += l % 2 == 0 ? " needs a*" : " clash a*";
        }
        DUE.is("ten packages, ten wants", 0, Due.read(new RangeResolver(), ten + wants));
        fault(TOO_MUCH, ten, "package p0{}");
        fault(TOO_MUCH, ten, "package 5");
        fault(TOO_MUCH, ten + wants, "want p0*;");
        fault(TOO_MUCH, ten + wants, "want want");
        fault(FORM, ten + wants, "package p0{}");
        DUE.is("six releases", 0, Due.read(new RangeResolver(), six + "}"));
        DUE.is("six releases each", 0, Due.read(new RangeResolver(), six + "}" + six.replace('a', 'b').replace("pbckbge", "package") + "}"));
        fault(TOO_MUCH, six, "6.0.0;}");
        fault(TOO_MUCH, six, "5.0.0;}");
        fault(FORM, six, "6.0;}");
        DUE.is("four links", 0, Due.read(new RangeResolver(), four + ";2.0.0 needs a*;}"));
        fault(TOO_MUCH, four + " ", "needs a*;}");
        fault(TOO_MUCH, four + " ", "clash;}");
        DUE.is("six parts", 0, Due.read(new RangeResolver(), "package a{}want a" + "*".repeat(6) + ";"));
        fault(TOO_MUCH, "package a{}want a" + "*".repeat(6), "*;");
        fault(FORM, "package a{}want a" + "*".repeat(6), "1.2.3.4;");
        fault(TOO_MUCH, "package a{1.0.0 clash a*||" + "*".repeat(6), "1.0.0;}");
        DUE.is("sixteen alls", 0, Due.read(new RangeResolver(), "package a{}want a" + "*||".repeat(15) + "*;"));
        fault(TOO_MUCH, "package a{}want a" + "*||".repeat(16), "*;");
        fault(FORM, "package a{}want a" + "*||".repeat(16), ";");
        fault(FORM, "package a{}want a" + "*||".repeat(16), "||;");
    }

    private static void twice() {
        fault(TWICE, "package a{}package b{}package ", "a{}");
        fault(TWICE, "package a{1.0.0;2.0.0;", "1.0.0;}");
        fault(TWICE, "package a{1.0.0+x;", "1.0.0+y;}");
        fault(TWICE, "package a{1.0.0-a.1;2.0.0;", "1.0.0-a.1+y needs;}");
        DUE.is("not the same", 0, Due.read(new RangeResolver(), "package a{1.0.0-a;1.0.0-A;1.0.0;1.0.0-a.0;}"));
        DUE.is("in two packages", 0, Due.read(new RangeResolver(), "package a{1.0.0;}package b{1.0.0;}"));
    }

    private static void unknown() {
        fault(UNKNOWN, "package a{1.0.0 needs ", "b*;}");
        fault(UNKNOWN, "package a{1.0.0 clash a* clash ", "b*;} want c*;");
        fault(UNKNOWN, "package a{1.0.0 clash a*;} want a*; want ", "aa*;");
        fault(UNKNOWN, "want ", "a*;");
    }

    private static void theLowestPlace() {
        fault(FORM, "package a{1.0.0 needs b*;} want a", ";");
        fault(TWICE, "package a{1.0.0 needs b*;} package ", "a{}");
        fault(TWICE, "package a{1.0.0;", "1.0.0;} 5");
        fault(TOO_MUCH, "package a{1.0.0 needs b******", "*;} 5");
        fault(FORM, "package a{", "1.0;1.0.0;1.0.0;}");
    }

    private static void largestText() {
        String text = "package a{1.0.0;}want a*;";
        RangeResolver x = new RangeResolver();
        DUE.is("2,000 bytes", 0, Due.read(x, text + " ".repeat(2000 - text.length())));
        DUE.is("2,000 bytes, a fault at the last", 1 + 8 * 1999, Due.read(x, text + " ".repeat(1999 - text.length()) + ";"));
        DUE.is("2,000 bytes, a fault at the end", 1 + 8 * 2000, Due.read(x, text + " ".repeat(1996 - text.length()) + "want"));
        DUE.is("2,000 tokens", 1, Due.read(x, ";".repeat(2000)));
    }

    /** A fault is due where the second text begins. */
    private static void fault(int kind, String fine, String faulty) {
        fault(new RangeResolver(), kind, fine, faulty);
    }

    private static void fault(RangeResolver x, int kind, String fine, String faulty) {
        DUE.is("read of \"" + fine + faulty + "\"", kind + 8 * fine.length(), Due.read(x, fine + faulty));
    }
}
