/** PART 2 and promise 3: how long the TEXT and a NAME may be, how many PACKAGES, RELEASES, LINKS and WANTS there may be. */
public final class BoundaryRegistryTest {
    private static final int FORM = 1;
    private static final int TOO_MUCH = 2;
    private static final Due DUE = new Due();

    public static void main(String[] args) {
        lengthOfTheText();
        denseText();
        lengthOfANameAfterEachWord();
        signsOfAName();
        words();
        packages();
        releases();
        links();
        wants();
        mostOfAll();
        partsAndAllsOfALink();
        rowsStartAnew();
        DUE.end();
    }

    /** A TEXT of at most 2,000 bytes: none, one, 1,999, 2,000. */
    private static void lengthOfTheText() {
        sizes("", 0, 0, 0);
        sizes(" ", 0, 0, 0);
        sizes("\n", 0, 0, 0);
        fault(FORM, "", "a");
        fault(FORM, "", ";");
        String text = "package a{1.0.0;}want a*;";
        for (int length : new int[] {25, 26, 1999, 2000}) {
            sizes(text + " ".repeat(length - 25), 1, 1, 1);
            sizes("\n".repeat(length - 25) + text, 1, 1, 1);
            sizes(text.replace("want", " ".repeat(length - 25) + "want"), 1, 1, 1);
        }
        fault(FORM, text + " ".repeat(1974), "a");
        fault(FORM, text + " ".repeat(1971) + "want", "");
        fault(FORM, text + " ".repeat(1970) + "want ", "");
        fault(FORM, " ".repeat(1999), ";");
    }

    /** As many constraints as 2,000 bytes have room for, and the last of them is the last byte. */
    private static void denseText() {
        StringBuilder text = new StringBuilder();
        int links = 0;
        int room = 2000 - 10 * "want a*;".length();
        for (int p = 0; p < 10; p++) {
            text.append("package ").append((char) ('a' + p)).append('{');
            for (int r = 0; r < 6; r++) {
                text.append(r).append(".0.0");
                int rest = 6 * (6 * (10 - p) - r) + 11 * (10 - p);
                for (int k = 0; k < 4 && text.length() + 9 + rest < room; k++) {
                    text.append(k == 0 ? " needs a*" : "clash a*");
                    links++;
                }
                text.append(';');
            }
            text.append('}');
        }
        text.append(" ".repeat(room - text.length())).append("want a*;".repeat(10));
        DUE.is("a text of", 2000, text.length());
        RangeResolver x = sizes(text.toString(), 10, 60, links + 10);
        DUE.is("the first want", "want a *", Due.written(x, 2, links));
        DUE.is("the last want", "want a *", Due.written(x, 2, links + 9));
        DUE.is("no more of them", -1, x.write(2, links + 10));
        DUE.is("the last release", "j 5.0.0", Due.written(x, 1, 59));
        DUE.is("no more of them", -1, x.write(1, 60));
        // each release of a clashes with a itself
        DUE.is("resolve", 0, x.resolve(false));
        DUE.is("the reason: a clash of each release of a, and a want", 7, x.count(5));
        for (int r = 0; r < 6; r++) {
            DUE.is("reason(" + r + ")", 4 * r + 1, x.reason(r));
        }
        DUE.is("reason(6)", links, x.reason(6));
        DUE.is("solutions", 0, x.solutions(1000));
    }

    /** NAMES: a small letter, then small letters, digits, _; 12 at most. */
    private static void lengthOfANameAfterEachWord() {
        for (int length : new int[] {1, 2, 11, 12, 13, 14, 24, 25, 300}) {
            for (String name : new String[] {"a".repeat(length), "a" + "9".repeat(length - 1), "z" + "_".repeat(length - 1)}) {
                boolean fine = length <= 12;
                String text = "package " + name + "{1.0.0 needs " + name + "*clash " + name + "=2;}want " + name + "*;";
                if (fine) {
                    RangeResolver x = sizes(text, 1, 1, 3);
                    DUE.is("release 0", name + " 1.0.0", Due.written(x, 1, 0));
                    DUE.is("constraint 2", "want " + name + " *", Due.written(x, 2, 2));
                } else {
                    fault(FORM, "package ", text.substring(8));
                    fault(FORM, "package a{1.0.0 needs ", name + "*;}");
                    fault(FORM, "package a{1.0.0 clash ", name + "*;}");
                    fault(FORM, "package a{}want ", name + "*;");
                    fault(FORM, "", name);
                }
            }
        }
        // what differs at the twelfth sign alone is another NAME
        RangeResolver x = sizes("package abcdefghijkl{1.0.0;}package abcdefghijkm{2.0.0;}package abcdefghijk{}want abcdefghijkm*;", 3, 2, 1);
        DUE.is("resolve", 1, x.resolve(false));
        DUE.is("chosen(1)", 1, x.chosen(1));
        DUE.is("a NAME without {}", FORM + 8 * 20, Due.read(x, "package abcdefghijkl"));
        DUE.is("no NAME", FORM + 8 * 8, Due.read(x, "package abcdefghijklm"));
        DUE.is("no NAME, and no byte behind it", FORM + 8 * 7, Due.read(x, "package"));
    }

    /** Each of the 256 bytes as a NAME's first sign, and as a later one. */
    private static void signsOfAName() {
        for (char sign = 0; sign < 256; sign++) {
            boolean letter = sign >= 'a' && sign <= 'z';
            boolean later = letter || sign >= '0' && sign <= '9' || sign == '_';
            boolean blank = sign == ' ' || sign == '\n';
            int first = letter ? 0 : FORM + 8 * (blank ? 9 : 8);
            DUE.is("a NAME of sign " + (int) sign, first, Due.read(new RangeResolver(), "package " + sign + "{}"));
            int second = later || blank ? 0 : FORM + 8 * (sign == '{' ? 10 : 9);
            DUE.is("a NAME of a and sign " + (int) sign, second, Due.read(new RangeResolver(), "package a" + sign + "{}"));
            int behind = blank ? 0 : FORM + 8 * 11;
            DUE.is("sign " + (int) sign + " behind all", behind, Due.read(new RangeResolver(), "package a{}" + sign));
        }
    }

    /** WORDS (package want needs clash, no NAMES), each as long as can be. */
    private static void words() {
        for (String word : new String[] {"package", "want", "needs", "clash"}) {
            fault(FORM, "package ", word + "{}");
            fault(FORM, "package a{1.0.0 needs ", word + "*;}");
            fault(FORM, "package a{1.0.0 clash ", word + "*;}");
            fault(FORM, "want ", word + "*;");
            for (String name : new String[] {word + "s", word + "_", word + "0", "a" + word, word.substring(0, word.length() - 1),
                word.substring(1)}) {
                sizes("package " + name + "{1.0.0 needs " + name + "*;}want " + name + "*;", 1, 1, 2);
                fault(FORM, "", name + " a{}");
            }
        }
        namesOneSignOffAWord();
        fault(FORM, "", "packagea{}");
        fault(FORM, "package a{1.0.0 ", "needsa*;}");
        fault(FORM, "package a{}", "wanta*;");
        fault(FORM, "", "Package a{}");
        sizes("package a{1.0.0 needs a*needs a*;}want a*;", 1, 1, 3);
    }

    private static void namesOneSignOffAWord() {
        for (String word : new String[] {"package", "want", "needs", "clash"}) {
            for (int i = 0; i < word.length(); i++) {
                String name = word.substring(0, i) + (char) (word.charAt(i) ^ 1) + word.substring(i + 1);
                if (name.matches("[a-z]+")) {
                    sizes("package " + name + "{1.0.0 clash " + name + "<1;}want " + name + "*;", 1, 1, 2);
                    fault(FORM, "", name + " a{}");
                    fault(FORM, "package a{1.0.0 ", name + " a*;}");
                    fault(FORM, "package a{}", name + " a*;");
                }
            }
        }
    }

    /** At most 10 PACKAGES; one more is TOO MUCH at package. */
    private static void packages() {
        for (int count = 0; count <= 10; count++) {
            sizes(packages(count), count, 0, 0);
        }
        for (String rest : new String[] {"package k{}", "package a{}", "package k", "package", "package 1", "packages", "package package"}) {
            boolean word = !rest.equals("packages");
            fault(word ? TOO_MUCH : FORM, packages(10), rest);
            fault(word ? TOO_MUCH : FORM, packages(10) + "\n ", rest);
        }
        fault(FORM, packages(9), "packages");
        fault(FORM, packages(9) + "package", "");
        fault(FORM, packages(9) + "package ", "1");
        fault(FORM, packages(10) + "want a*;", "package k{}");
        fault(FORM, packages(10), "k{}");
        RangeResolver x = sizes(packages(10) + "want j*;", 10, 0, 1);
        DUE.is("constraint 0", "want j *", Due.written(x, 2, 0));
    }

    /** At most 6 RELEASES of one; one more is TOO MUCH at its VERSION. */
    private static void releases() {
        for (int count = 0; count <= 6; count++) {
            RangeResolver x = sizes("package a{" + releases(count) + "}", 1, count, 0);
            DUE.is("the last one", count == 0 ? "NONE" : "a " + (count - 1) + ".0.0", Due.written(x, 1, count - 1));
            DUE.is("behind it", -1, x.write(1, count));
        }
        for (String rest : new String[] {"6.0.0;}", "0.0.0;}", "6.0.0 needs", "6.0.0", "5.0.0+b;}", "6.0.0 }"}) {
            fault(TOO_MUCH, "package a{" + releases(6), rest);
            fault(TOO_MUCH, "package b{" + releases(6) + "}package a{" + releases(6) + " ", rest);
        }
        for (String rest : new String[] {"6.0;}", "=6.0.0;}", "6.0.0.0;}", "6.x;}", "*;}", ";}", "a;}"}) {
            fault(FORM, "package a{" + releases(6), rest);
            fault(FORM, "package a{" + releases(5), rest);
        }
        fault(FORM, "package a{" + releases(6), "");
    }

    /** At most 4 LINKS of a RELEASE; one more is TOO MUCH at needs or clash. */
    private static void links() {
        for (int count = 0; count <= 4; count++) {
            RangeResolver x = sizes("package a{1.0.0" + links(count) + ";}", 1, 1, count);
            String last = count % 2 == 1 ? "needs" : "clash";
            DUE.is("the last one", count == 0 ? "NONE" : "a 1.0.0 " + last + " a *", Due.written(x, 2, count - 1));
            DUE.is("behind it", -1, x.write(2, count));
        }
        for (String rest : new String[] {"needs a*;}", "clash a*;}", "needs", "clash", "needs b*;}", "clash ;", "needs needs"}) {
            fault(TOO_MUCH, "package a{1.0.0" + links(4) + " ", rest);
            fault(TOO_MUCH, "package a{1.0.0" + links(4) + ";2.0.0" + links(4) + "\n", rest);
        }
        fault(FORM, "package a{1.0.0" + links(4), ",");
        fault(FORM, "package a{1.0.0" + links(4), "}");
        fault(FORM, "package a{1.0.0" + links(4) + " ", "need a*;}");
        fault(FORM, "package a{1.0.0" + links(3) + " needs", ";}");
        fault(FORM, "package a{1.0.0" + links(4), "");
    }

    /** At most 10 WANTS; one more is TOO MUCH at want. */
    private static void wants() {
        for (int count = 0; count <= 10; count++) {
            RangeResolver x = sizes("package a{}" + "want a*;".repeat(count), 1, 0, count);
            DUE.is("the last one", count == 0 ? "NONE" : "want a *", Due.written(x, 2, count - 1));
            DUE.is("behind it", -1, x.write(2, count));
        }
        for (String rest : new String[] {"want a*;", "want b*;", "want", "want ;", "want want", "want a"}) {
            fault(TOO_MUCH, "package a{}" + "want a*;".repeat(10), rest);
            fault(TOO_MUCH, "package a{}" + "want a*;".repeat(10) + "\n\n", rest);
        }
        fault(FORM, "package a{}" + "want a*;".repeat(10), "wants");
        fault(FORM, "package a{}" + "want a*;".repeat(10), "a*;");
        fault(FORM, "package a{}" + "want a*;".repeat(9) + "want", "");
        fault(FORM, "package a{}" + "want a*;".repeat(9) + "want ", ";");
    }

    /** Each of the sizes is at its end, and each one more of them is refused. */
    private static void mostOfAll() {
        StringBuilder text = new StringBuilder();
        for (int p = 0; p < 10; p++) {
            text.append("package ").append((char) ('a' + p)).append('{').append(releases(5)).append("5.0.0");
            text.append(p == 9 ? links(4) : "").append(";}");
        }
        RangeResolver x = sizes(text + "want j*;".repeat(10), 10, 60, 14);
        DUE.is("release 59", "j 5.0.0", Due.written(x, 1, 59));
        DUE.is("constraint 3", "j 5.0.0 clash a *", Due.written(x, 2, 3));
        DUE.is("constraint 13", "want j *", Due.written(x, 2, 13));
        fault(TOO_MUCH, text.toString(), "package k{}");
        fault(TOO_MUCH, text + "want j*;".repeat(10), "want j*;");
        fault(TOO_MUCH, text.substring(0, text.length() - 1), "6.0.0;}");
        fault(TOO_MUCH, text.substring(0, text.length() - 2), "needs a*;}");
    }

    /** A 7th PART, a 17th ALL (at its first TOKEN), in a LINK and in a WANT. */
    private static void partsAndAllsOfALink() {
        for (String before : new String[] {"package a{1.0.0 needs a ", "package a{1.0.0 clash a ", "package a{1.0.0;}want a "}) {
            String behind = before.contains("want") ? ";" : ";}";
            for (int parts = 1; parts <= 6; parts++) {
                sizes(before + "* ".repeat(parts) + behind, 1, 1, 1);
            }
            fault(FORM, before, behind);
            fault(TOO_MUCH, before + "* ".repeat(6), "*" + behind);
            fault(TOO_MUCH, before + "* ".repeat(6), "1.0.0" + behind);
            fault(FORM, before + "* ".repeat(6), "1.0.0.0" + behind);
            for (int alls = 1; alls <= 16; alls++) {
                sizes(before + "1 || ".repeat(alls - 1) + "1" + behind, 1, 1, 1);
                fault(FORM, before + "1 || ".repeat(alls), behind);
            }
            fault(TOO_MUCH, before + "1 || ".repeat(16), "1" + behind);
            fault(TOO_MUCH, before + "* * * * * * || ".repeat(16), "1 * * * * * *" + behind);
            fault(TOO_MUCH, before + "* * * * * * || ".repeat(15) + "* * * * * * ", "* || 1" + behind);
            fault(FORM, before + "1 || ".repeat(16), "a" + behind);
        }
    }

    /** How many there are is counted anew for each PACKAGE, RELEASE, RANGE, and TEXT. */
    private static void rowsStartAnew() {
        sizes("package a{" + releases(6) + "}package b{" + releases(6) + "}", 2, 12, 0);
        sizes("package a{1.0.0" + links(4) + ";2.0.0" + links(4) + ";}package b{1.0.0" + links(4) + ";}", 2, 3, 12);
        sizes("package a{1.0.0 needs a******clash a******||******;}want a******;", 1, 1, 3);
        RangeResolver x = new RangeResolver();
        for (int round = 0; round < 3; round++) {
            DUE.is("ten packages", 0, Due.read(x, packages(10) + "want a*;".repeat(10)));
            DUE.is("an eleventh", TOO_MUCH + 8 * 110, Due.read(x, packages(10) + "package k{}"));
            DUE.is("a seventh release", TOO_MUCH + 8 * 46, Due.read(x, "package a{" + releases(6) + "6.0.0;}"));
            DUE.is("six releases", 0, Due.read(x, "package a{" + releases(6) + "}"));
        }
        DUE.is("packages", 1, x.count(0));
        DUE.is("releases", 6, x.count(1));
        DUE.is("constraints", 0, x.count(2));
    }

    private static String packages(int count) {
        StringBuilder text = new StringBuilder();
        for (int p = 0; p < count; p++) {
            text.append("package ").append((char) ('a' + p)).append("{}");
        }
        return text.toString();
    }

    private static String releases(int count) {
        StringBuilder text = new StringBuilder();
        for (int r = 0; r < count; r++) {
            text.append(r).append(".0.0;");
        }
        return text.toString();
    }

    private static String links(int count) {
        StringBuilder text = new StringBuilder();
        for (int k = 0; k < count; k++) {
            text.append(k % 2 == 0 ? " needs a*" : " clash a*");
        }
        return text.toString();
    }

    /** The text is read, and has so many of each. */
    private static RangeResolver sizes(String text, int packages, int releases, int constraints) {
        RangeResolver x = new RangeResolver();
        DUE.is("read of \"" + text + "\"", 0, Due.read(x, text));
        DUE.is("packages of \"" + text + "\"", packages, x.count(0));
        DUE.is("releases of \"" + text + "\"", releases, x.count(1));
        DUE.is("constraints of \"" + text + "\"", constraints, x.count(2));
        return x;
    }

    /** A fault is due where the second text begins, and there is no PACKAGE then. */
    private static void fault(int kind, String fine, String faulty) {
        RangeResolver x = new RangeResolver();
        DUE.is("read of \"" + fine + faulty + "\"", kind + 8 * fine.length(), Due.read(x, fine + faulty));
        DUE.is("packages behind it", 0, x.count(0));
        DUE.is("bytes of the tape behind it", 0, x.count(3));
    }
}
