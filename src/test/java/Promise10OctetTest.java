public final class Promise10OctetTest {
    public static void main(String[] args) {
        Due due = new Due();
        RangeResolver x = new RangeResolver();
        due.is("octet(0), nothing written", -1, x.octet(0));
        Due.range(x, 1, "1.2.3-aZ");
        due.is("write", 9, x.write(0, 1));
        String text = "=1.2.3-aZ";
        for (int i = 0; i < text.length(); i++) {
            due.is("octet(" + i + ")", text.charAt(i), x.octet(i));
        }
        for (int wrong : new int[] {-1, 9, 10, 5000, Integer.MAX_VALUE, Integer.MIN_VALUE}) {
            due.is("octet(" + wrong + ")", -1, x.octet(wrong));
        }
        due.is("a shorter one", 1, x.write(0, 0));
        due.is("octet(0)", '*', x.octet(0));
        due.is("octet(1)", -1, x.octet(1));
        due.is("read", 0, Due.read(x, "package a{1.0.0;}"));
        due.is("resolve", 1, x.resolve(false));
        due.is("range", 0, Due.range(x, 0, "1"));
        due.is("what was written stays", '*', x.octet(0));
        due.end();
    }
}
