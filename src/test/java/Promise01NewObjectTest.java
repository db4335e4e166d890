public final class Promise01NewObjectTest {
    public static void main(String[] args) {
        Due due = new Due();
        RangeResolver x = new RangeResolver();
        due.is("NONE", -1, RangeResolver.NONE);
        due.is("packages", 0, x.count(0));
        due.is("releases", 0, x.count(1));
        due.is("constraints", 0, x.count(2));
        due.is("bytes of the tape", 0, x.count(3));
        due.is("chosen releases", 0, x.count(4));
        due.is("constraints of the reason", 0, x.count(5));
        due.is("octet(0)", -1, x.octet(0));
        for (int k = 0; k < 16; k++) {
            due.is("count(" + (16 + k) + ")", 1, x.count(16 + k));
            due.is("slot " + k, "*", Due.written(x, 0, k));
        }
        due.is("chosen(0)", -1, x.chosen(0));
        due.is("reason(0)", -1, x.reason(0));
        due.is("why(0)", -1, x.why(0));
        due.is("holds(0, 0)", -1, x.holds(0, 0));
        due.is("solutions(9): the choice of nothing", 1, x.solutions(9));
        due.is("resolve(true)", 1, x.resolve(true));
        due.is("resolve(false)", 1, x.resolve(false));
        due.is("chosen(0)", -1, x.chosen(0));
        due.end();
    }
}
