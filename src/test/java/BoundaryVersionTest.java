/** PART 1: how long and of which signs NUMBERS, IDENTIFIERS and rows of these may be, and how they are ordered at the ends. */
public final class BoundaryVersionTest {
    private static final String BIG = "999999999";
    private static final Due DUE = new Due();

    public static void main(String[] args) {
        numbers();
        identifiersBehindMinus();
        identifiersBehindPlus();
        rows();
        signs();
        longest();
        orderOfNumbers();
        orderOfIdentifiers();
        orderOfRows();
        theSame();
        blanksAround();
        DUE.end();
    }

    /** NUMBER: 0, or one to nine digits, the first not 0; three of them. */
    private static void numbers() {
        for (String number : new String[] {"0", "1", "9", "10", "99", "10000000", "99999999", "100000000", "999999998", BIG}) {
            isVersion(number + ".0.0", true);
            isVersion("0." + number + ".0", true);
            isVersion("0.0." + number, true);
        }
        for (String wrong : new String[] {"", "00", "01", "09", "000000000", "012345678", "0000000000", "1000000000", "9999999999",
            "2147483647", "2147483648", "4294967296", "4294967297", "18446744073709551616", "1a", "a", "x", "-1", "-"}) {
            isVersion(wrong + ".0.0", false);
            isVersion("0." + wrong + ".0", false);
        }
        for (String wrong : new String[] {"", "00", "01", "000000000", "0000000000", "1000000000", "2147483648", "18446744073709551616",
            "1a", "a", "0.", "0.0", "0..0"}) {
            isVersion("0.0." + wrong, false);
        }
        isVersion("0.0.0", true);
        isVersion(BIG + "." + BIG + "." + BIG, true);
        isVersion(".0.0.0", false);
        isVersion("0.0.0.", false);
        isNoVersionButShort("0");
        isNoVersionButShort("0.0");
        isNoVersionButShort("0.0.x");
    }

    /** One to eight signs; one of digits alone is a NUMBER. */
    private static void identifiersBehindMinus() {
        for (String row : new String[] {"#", "#.b", "a.#", "a.#.c", "a.b.c.#", "1.2.#.4"}) {
            for (String fine : new String[] {"0", "1", "9", "a", "Z", "-", "10", "99999999", "10000000", "aaaaaaa", "aaaaaaaa", "--------",
                "0a", "00a", "0-", "0000000a", "a0000000", "-0", "-01", "01234-67"}) {
                isVersion("1.2.3-" + row.replace("#", fine), true);
            }
            for (String wrong : new String[] {"", "00", "01", "09", "00000000", "01234567", "100000000", "123456789", "aaaaaaaaa",
                "---------", "0000000aa", "000000000", "a".repeat(16), "a".repeat(17), "a".repeat(300)}) {
                isVersion("1.2.3-" + row.replace("#", wrong), false);
            }
        }
    }

    /** Behind + one of digits alone may begin with 0. */
    private static void identifiersBehindPlus() {
        for (String before : new String[] {"", "-0", "-a.b.c.d"}) {
            for (String row : new String[] {"#", "#.b", "a.#", "a.b.c.#"}) {
                for (String fine : new String[] {"0", "00", "01", "00000000", "01234567", "99999999", "a", "-", "aaaaaaa", "aaaaaaaa"}) {
                    isVersion("1.2.3" + before + "+" + row.replace("#", fine), true);
                }
                for (String wrong : new String[] {"", "000000000", "123456789", "aaaaaaaaa", "a+b", "+"}) {
                    isVersion("1.2.3" + before + "+" + row.replace("#", wrong), false);
                }
            }
        }
        isVersion("1.2.3+a-b", true);
        isVersion("1.2.3+a-01", true);
    }

    /** Four at most in a row, and one at least. */
    private static void rows() {
        String[] rows = {"", "a", "a.b", "a.b.c", "a.b.c.d", "a.b.c.d.e", "a.b.c.d.e.f", "a.b.c.d.", ".a", "a..b", "."};
        for (int i = 0; i < rows.length; i++) {
            boolean fine = i >= 1 && i <= 4;
            isVersion("1.2.3-" + rows[i], fine);
            isVersion("1.2.3+" + rows[i], fine);
            isVersion("1.2.3-" + rows[i] + "+b", fine);
            isVersion("1.2.3-a+" + rows[i], fine);
        }
        isVersion("1.2.3-0.0.0.0", true);
        isVersion("1.2.3-0.0.0.0.0", false);
        isVersion("1.2.3-a.b.c.d+a.b.c.d", true);
        isVersion("1.2.3-a.b.c.d+a.b.c.d.e", false);
        isVersion("1.2.3-a.b.c.d.e+a.b.c.d", false);
    }

    /** A .. Z a .. z 0 .. 9 -: each of the 256 bytes within an IDENTIFIER and at its ends. */
    private static void signs() {
        for (char sign = 0; sign < 256; sign++) {
            boolean fine = sign >= 'A' && sign <= 'Z' || sign >= 'a' && sign <= 'z' || sign >= '0' && sign <= '9' || sign == '-';
            boolean within = fine || sign == '.' || sign == '+';
            boolean blank = sign == ' ' || sign == '\n';
            is("1.0.0-a" + sign + "b 1.0.0", within ? -1 : 2);
            is("1.0.0-" + sign + " 1.0.0", fine ? -1 : 2);
            is("1.0.0 1.0.0+" + sign, fine ? 0 : 2);
            is("1.0.0" + sign + "1.0.0", blank ? 0 : 2);
            is(sign + "1.0.0 1.0.0", blank ? 0 : sign >= '1' && sign <= '9' ? 1 : 2);
            is("1.0.0 1.0.1" + sign, blank || sign >= '0' && sign <= '9' ? -1 : 2);
        }
    }

    private static void longest() {
        String numbers = BIG + "." + BIG + "." + BIG;
        String row = "zzzzzzzz.99999999.--------.ZZZZZZZZ";
        isVersion(numbers + "-" + row + "+" + row, true);
        isVersion(numbers + "-" + row + "z+" + row, false);
        isVersion(numbers + "-" + row + "+" + row + "z", false);
        isVersion("9" + numbers + "-" + row + "+" + row, false);
        isVersion(numbers + "9-" + row + "+" + row, false);
        isVersion("1".repeat(1990), false);
    }

    private static void orderOfNumbers() {
        rises("0.0.0", "0.0.1", "0.0.999999998", "0.0." + BIG, "0.1.0-0", "0.1.0", "0.999999998." + BIG, "0." + BIG + ".0",
            "0." + BIG + "." + BIG, "1.0.0-0", "999999998." + BIG + "." + BIG, BIG + ".0.0", BIG + "." + BIG + ".999999998",
            BIG + "." + BIG + "." + BIG + "-0", BIG + "." + BIG + "." + BIG + "-zzzzzzzz.zzzzzzzz.zzzzzzzz.zzzzzzzz",
            BIG + "." + BIG + "." + BIG);
    }

    /** NUMBERS by value and below others, others byte by byte, the shorter one first. */
    private static void orderOfIdentifiers() {
        String[] rising = {"0", "1", "9", "10", "11", "99", "9999999", "10000000", "99999998", "99999999", "-", "--", "-------", "--------",
            "-0", "-9", "-A", "-a", "0-", "00000000-".substring(1), "0000000a", "0A", "0a", "1-", "9999999z", "A", "A-", "A0", "AA", "Az",
            "Z", "ZZZZZZZZ", "a", "a-", "a0", "aA", "aa", "aaaaaaa", "aaaaaaaa", "aaaaaaab", "z", "zzzzzzz", "zzzzzzzy", "zzzzzzzz"};
        for (String row : new String[] {"#", "a.#", "0.0.0.#"}) {
            String[] versions = new String[rising.length];
            for (int i = 0; i < rising.length; i++) {
                versions[i] = "1.0.0-" + row.replace("#", rising[i]);
            }
            rises(versions);
        }
    }

    /** Where one row begins the other the shorter one is below; one with - is below the same without. */
    private static void orderOfRows() {
        rises("0.0.0-0", "0.0.0-0.0", "0.0.0-0.0.0", "0.0.0-0.0.0.0", "0.0.0-0.0.0.1", "0.0.0-0.0.1", "0.0.0-0.0.1.0", "0.0.0-0.1",
            "0.0.0-1", "0.0.0-z", "0.0.0-z.0", "0.0.0-z.z.z", "0.0.0-z.z.z.0", "0.0.0-z.z.z.z", "0.0.0-zzzzzzzz.zzzzzzzz.zzzzzzzz.zzzzzzzz",
            "0.0.0", "0.0.1-0");
    }

    /** What is behind + doesn't count. */
    private static void theSame() {
        String longest = "+zzzzzzzz.zzzzzzzz.zzzzzzzz.zzzzzzzz";
        for (String version : new String[] {"0.0.0-0", "0.0.0", "1.0.0-a.b.c.d", BIG + "." + BIG + "." + BIG}) {
            for (String first : new String[] {"", "+0", "+a", longest}) {
                for (String second : new String[] {"", "+00", "+b", longest}) {
                    is(version + first + " " + version + second, 0);
                    is(version + first + " " + version.replace("0.0.0", "0.0.1") + second, version.startsWith("0.0.0") ? -1 : 0);
                }
            }
        }
    }

    /** Two VERSIONS with a blank between, not one, not three; blanks may stand around. */
    private static void blanksAround() {
        is("", 2);
        is(" ", 2);
        is("1.0.0", 2);
        is("1.0.0 ", 2);
        is(" 1.0.0", 2);
        is("1.0.0 2.0.0", -1);
        is(" 1.0.0 2.0.0 ", -1);
        is("\n\n1.0.0\n2.0.0\n\n", -1);
        is("1.0.0 2.0.0 3.0.0", 2);
        is("1.0.0 2.0.0 3", 2);
        is("1.0.02.0.0", 2);
        is("1 2.0.0", 2);
        is("1.0.0 2.0", 2);
        is("1.0.0 2.0.x", 2);
        is("1.0.0 =2.0.0", 2);
        is("1.0.0 *", 2);
        is("1.0.0 || 2.0.0", 2);
        is("2.0.0" + " ".repeat(1990) + "1.0.0", 1);
    }

    /** Each is below all behind it. */
    private static void rises(String... versions) {
        for (int i = 0; i < versions.length; i++) {
            for (int j = 0; j < versions.length; j++) {
                is(versions[i] + " " + versions[j], Integer.compare(i, j));
            }
        }
    }

    /** A VERSION is one wherever it may stand: for order(), as a PART and as a RELEASE's. */
    private static void isVersion(String text, boolean is) {
        is(text + " " + text, is ? 0 : 2);
        is("0.0.0-0 " + text, is ? text.startsWith("0.0.0-0") && !text.startsWith("0.0.0-0.") ? 0 : -1 : 2);
        RangeResolver x = new RangeResolver();
        if (text.length() < 1000) {
            DUE.is("range of " + text, is ? 0 : 1 + 8, Due.range(x, 0, " =" + text));
        }
        boolean begins = !text.isEmpty() && (text.charAt(0) < 'a' || text.charAt(0) > 'z');
        if (begins && text.length() < 1000) {
            DUE.is("range of " + text, is ? 0 : 1 + 8 * 2, Due.range(x, 0, "* " + text));
            DUE.is("release " + text, is ? 0 : 1 + 8 * 10, Due.read(x, "package a{" + text + ";}"));
            DUE.is("releases", is ? 1 : 0, x.count(1));
        }
    }

    private static void isNoVersionButShort(String text) {
        is(text + " 1.0.0", 2);
        is("1.0.0 " + text, 2);
        RangeResolver x = new RangeResolver();
        DUE.is("range of " + text, 0, Due.range(x, 0, text));
        DUE.is("release " + text, 1 + 8 * 10, Due.read(x, "package a{" + text + ";}"));
    }

    private static void is(String text, int answer) {
        if (text.length() <= 2000) {
            DUE.is("order of \"" + text + "\"", answer, Due.order(new RangeResolver(), text));
        }
    }
}
