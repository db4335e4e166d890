import java.util.function.Consumer;

/** PART 2 and promise 3: the FAULTS 1 to 4, their places, which of several is told, and what a refused text leaves. */
public final class BoundaryFaultTest {
    private static final int FORM = 1;
    private static final int TOO_MUCH = 2;
    private static final int TWICE = 3;
    private static final int UNKNOWN = 4;
    private static final String SIX = "0.0.0;1.0.0;2.0.0;3.0.0;4.0.0;5.0.0;";
    private static final Due DUE = new Due();

    public static void main(String[] args) {
        formAtEachToken();
        placeOfTheEnd();
        tokensThatAreNone();
        twiceNames();
        twiceVersions();
        unknownNames();
        theLowestPlace();
        theLeastOfOnePlace();
        unknownOnlyIfNoneOfThese();
        refusedTextsLeaveAllButTheTape();
        readTextsForgetWhatWasFound();
        DUE.end();
    }

    /** What can't stand there: each other TOKEN in place of each TOKEN of a text. */
    private static void formAtEachToken() {
        String[] text = {"package", "a", "{", "1.0.0", "needs", "a", "*", "||", "1", ";", "}", "want", "a", ">=1.x", ";"};
        String[] others = {"package", "want", "needs", "clash", "b", "1.0.0", "1.x", "*", "||", "{", "}", ";", "#", ""};
        String fine = "";
        for (int t = 0; t < text.length; t++) {
            for (String other : others) {
                if (!fits(t, other)) {
                    fault(FORM, fine, other + (other.isEmpty() ? "" : " a{}"));
                }
            }
            fine += text[t] + " ";
        }
        DUE.is("the whole text", 0, Due.read(new RangeResolver(), fine));
    }

    /** Whether the TOKEN may stand in place of token t of formAtEachToken()'s text (an empty one: the end). */
    private static boolean fits(int t, String token) {
        String[] fitting = {" package want  ", " b ", " { ", " 1.0.0 } ", " needs clash ; ", " b ", " 1.0.0 1.x * ", " 1.0.0 1.x * || needs clash ; ",
            " 1.0.0 1.x * ", " 1.0.0 1.x * || needs clash ; ", " 1.0.0 } ", " package want  ", " b ", " 1.0.0 1.x * ", " 1.0.0 1.x * || ; "};
        return fitting[t].contains(" " + token + " ");
    }

    /** The end: the text's length, blanks and all. */
    private static void placeOfTheEnd() {
        for (String text : new String[] {"package", "package a", "package a{", "package a{1.0.0", "package a{1.0.0;", "package a{1.0.0 needs",
            "package a{1.0.0 needs a", "package a{1.0.0 needs a*", "package a{1.0.0 needs a*||", "package a{}want", "package a{}want a",
            "package a{}want a*", "package a{}want a*||"}) {
            fault(FORM, text, "");
            fault(FORM, text + " ", "");
            fault(FORM, text + "\n \n", "");
            fault(FORM, text + " ".repeat(2000 - text.length()), "");
        }
        // places of the first byte, of the last of 2,000, and behind it
        fault(FORM, "", "a");
        fault(FORM, " ".repeat(1999), "{");
        DUE.is("the greatest answer", FORM + 8 * 2000, Due.read(new RangeResolver(), " ".repeat(1993) + "package"));
    }

    private static void tokensThatAreNone() {
        for (String wrong : new String[] {"|", "| |", "#", "A", "_", ".", "-", "+", ">", ">=", "=", "^", "~", "1.", "01.0.0", "1.0.0-", "1.0.0-01",
            "1.0.0+", "1.0.0.0", "\t", "\r", "\u0000", "\u007f", "\u0080", "\u00ff", "(", ",", "/", ":", "?", "@", "[", "`", "\""}) {
            fault(FORM, "", wrong);
            fault(FORM, "package a{} ", wrong + "want a*;");
            fault(FORM, "package ", wrong + "{}");
            fault(FORM, "package a{", wrong + ";}");
            fault(FORM, "package a{1.0.0 ", wrong + ";}");
            fault(FORM, "package a{}want a ", wrong + ";");
            fault(FORM, "package a{}want a * ", wrong + ";");
        }
    }

    /** 3 TWICE: a PACKAGE's NAME, at the second one. */
    private static void twiceNames() {
        fault(TWICE, "package a{}package ", "a{}");
        fault(TWICE, "package a{}package ", "a");
        fault(TWICE, "package abcdefghijkl{}package ", "abcdefghijkl{}");
        String nine = "package a{}package b{}package c{}package d{}package e{}package f{}package g{}package h{}package i{}";
        for (char name = 'a'; name <= 'i'; name++) {
            fault(TWICE, nine + "package\n", name + "{}");
        }
        fine(nine + "package j{}");
        fine("package a{}package aa{}package a_{}package a0{}");
        fine("package abcdefghijkl{}package abcdefghijk{}package abcdefghijkm{}package bbcdefghijkl{}");
    }

    /** 3 TWICE: THE SAME VERSION in one PACKAGE, at the second one. */
    private static void twiceVersions() {
        String[][] same = {{"0.0.0", "0.0.0"}, {"0.0.0-0", "0.0.0-0+a"}, {"1.0.0+a", "1.0.0"}, {"1.0.0", "1.0.0+zzzzzzzz.00000000.a.b"},
            {"1.0.0-a.b.c.d", "1.0.0-a.b.c.d"}, {"999999999.999999999.999999999", "999999999.999999999.999999999+1"}};
        for (String[] two : same) {
            fault(TWICE, "package a{" + two[0] + ";", two[1] + ";}");
            fault(TWICE, "package a{" + two[0] + ";7.0.0;8.0.0;9.0.0;10.0.0;", two[1] + ";}");
            fault(TWICE, "package b{" + two[0] + ";}package a{7.0.0;" + two[0] + ";", two[1] + " needs");
            fine("package a{" + two[0] + ";}package b{" + two[1] + ";}");
        }
        fine("package a{1.0.0-a;1.0.0-A;1.0.0;1.0.0-a.0;1.0.0-a.a;1.0.1;}");
        fine("package a{1.0.0-a.b.c.d;1.0.0-a.b.c.e;1.0.0-a.b.c;1.0.0-zzzzzzzz;1.0.0-zzzzzzzy;1.0.0-zzzzzzz;}");
        fine("package a{0.0.0;0.0.1;0.1.0;1.0.0;999999999.0.0;999999998.0.0;}");
    }

    /** 4 UNKNOWN: a NAME in a LINK or WANT that no PACKAGE has, at the NAME. */
    private static void unknownNames() {
        fault(UNKNOWN, "want ", "a*;");
        fault(UNKNOWN, "package a{1.0.0 needs ", "b*;}");
        fault(UNKNOWN, "package a{1.0.0 clash\n", "b*;}");
        fault(UNKNOWN, "package a{1.0.0 needs a* needs a* needs a* needs ", "b*;}want c*;");
        fault(UNKNOWN, "package a{1.0.0;}" + "want a*;".repeat(9) + "want ", "b*;");
        fault(UNKNOWN, "package abcdefghijkl{}want ", "abcdefghijk*;");
        fault(UNKNOWN, "package abcdefghijk{}want ", "abcdefghijkl*;");
        fault(UNKNOWN, "package a{}want ", "aa*;");
        fine("package a{1.0.0 needs b* clash b*;}package b{1.0.0 needs a*;}want b*;want a*;");
        String last = "want b*;";
        fault(UNKNOWN, "package a{}" + " ".repeat(2000 - 11 - last.length()) + "want ", "b*;");
    }

    /** FAULTS, the one of the lowest place. */
    private static void theLowestPlace() {
        fault(FORM, "package a{", "1.0;1.0.0;1.0.0;}package a{}");
        fault(TWICE, "package a{1.0.0;", "1.0.0;}package a{} ;");
        fault(TWICE, "package a{}package ", "a{1.0.0;1.0.0;} ;");
        fault(TOO_MUCH, "package a{" + SIX, "6.0.0;}package a{} ;");
        fault(TOO_MUCH, "package a{1.0.0 needs a******", "*;1.0.0;} ;");
        fault(FORM, "package a{1.0.0 needs a", ";" + SIX + "6.0.0;1.0.0;}");
        fault(TWICE, "package a{0.0.0;1.0.0;2.0.0;3.0.0;4.0.0;", "4.0.0;5.0.0;6.0.0;}");
    }

    /** Of one place the least: FORM ahead of TOO MUCH ahead of TWICE. */
    private static void theLeastOfOnePlace() {
        fault(TOO_MUCH, "package a{" + SIX, "0.0.0;}");
        fault(TOO_MUCH, "package a{" + SIX, "5.0.0+b;}");
        fault(FORM, "package a{" + SIX, "0.0;}");
        fault(FORM, "package a{" + SIX, "00.0.0;}");
        fault(FORM, "want a*;", "package a{}");
        fault(FORM, "package a{}want a * * * * * * ", "01;");
        fault(FORM, "package a{}want a " + "*||".repeat(16), "01;");
        fault(FORM, "package a{}want a " + "*||".repeat(16), "want;");
        String ten = "package a{}package b{}package c{}package d{}package e{}package f{}package g{}package h{}package i{}package j{}";
        fault(TOO_MUCH, ten, "package a{}");
        fault(FORM, ten + "want a*;", "package a{}");
    }

    /** And, if there is none of these, 4 UNKNOWN, though its place is lower. */
    private static void unknownOnlyIfNoneOfThese() {
        String unknown = "package a{1.0.0 needs b*;";
        fault(FORM, unknown + "} ", ";");
        fault(FORM, unknown, "");
        fault(TWICE, unknown, "1.0.0;}");
        fault(TWICE, unknown + "}package ", "a{}");
        fault(TOO_MUCH, unknown + "2.0.0 needs a******", "*;}");
        fault(TOO_MUCH, unknown + "2.0.0;3.0.0;4.0.0;5.0.0;6.0.0;", "7.0.0;}");
        fault(TOO_MUCH, unknown + "}" + "want c*;".repeat(10), "want c*;");
        fault(UNKNOWN, "package a{1.0.0 needs ", "b*;}" + "want c*;".repeat(10));
        fine(unknown + "}package b{}" + "want a*;".repeat(10));
    }

    /** Its FAULT (the former one stays); the tape is empty. */
    private static void refusedTextsLeaveAllButTheTape() {
        for (Consumer<RangeResolver> past : Pasts.ALL) {
            keeps(past, FORM, "", ";");
            keeps(past, FORM, "package c{7.0.0;}want c", "");
            keeps(past, FORM, "package c{7.0.0 needs c*;8.0.0;}want c=8;", "}");
            keeps(past, TOO_MUCH, "package c{" + SIX, "6.0.0;}");
            keeps(past, TOO_MUCH, "package c{7.0.0 needs c******", "*;}");
            keeps(past, TWICE, "package c{7.0.0;8.0.0;", "7.0.0;}");
            keeps(past, TWICE, "package c{7.0.0;}package ", "c{}");
            keeps(past, UNKNOWN, "package c{7.0.0 clash c*;}want ", "a*;");
            keeps(past, UNKNOWN, "want ", "c*;");
        }
    }

    private static void keeps(Consumer<RangeResolver> past, int kind, String fine, String faulty) {
        Twins.keepAllButTape(DUE, "read of \"" + fine + faulty + "\"", past, x -> Due.read(x, fine + faulty), kind + 8 * fine.length());
    }

    /** 0, and it's that now (nothing was found): even if it's the same text again, or an empty one. */
    private static void readTextsForgetWhatWasFound() {
        for (String text : new String[] {"", " ", "package a{1.0.0;}want a*;", "package a{}want a*;"}) {
            for (Consumer<RangeResolver> past : Pasts.ALL) {
                RangeResolver x = new RangeResolver();
                past.accept(x);
                int stretches = x.count(17);
                int first = x.octet(0);
                x.order(0);
                DUE.is("read of \"" + text + "\"", 0, Due.read(x, text));
                DUE.is("no release is chosen", 0, x.count(4));
                DUE.is("there is no reason", 0, x.count(5));
                DUE.is("chosen(0)", -1, x.chosen(0));
                DUE.is("why(0)", -1, x.why(0));
                DUE.is("reason(0)", -1, x.reason(0));
                DUE.is("the slots stay", stretches, x.count(17));
                DUE.is("what was written stays", first, x.octet(0));
                DUE.is("packages", text.length() > 1 ? 1 : 0, x.count(0));
            }
        }
    }

    private static void fine(String text) {
        DUE.is("read of \"" + text + "\"", 0, Due.read(new RangeResolver(), text));
    }

    /** A fault is due where the second text begins. */
    private static void fault(int kind, String fine, String faulty) {
        DUE.is("read of \"" + fine + faulty + "\"", kind + 8 * fine.length(), Due.read(new RangeResolver(), fine + faulty));
    }
}
