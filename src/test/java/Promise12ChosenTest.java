public final class Promise12ChosenTest {
    public static void main(String[] args) {
        Due due = new Due();
        RangeResolver x = Due.withRegistry("package a{1.0.0;}package b{}package c{1.0.0;2.0.0;}want c*;want a*;");
        due.is("nothing found yet", -1, x.chosen(0));
        due.is("solutions find nothing", 2, x.solutions(10));
        due.is("nothing found yet", -1, x.chosen(0));
        due.is("resolve", 1, x.resolve(false));
        due.is("chosen(0)", 0, x.chosen(0));
        due.is("chosen(1)", -1, x.chosen(1));
        due.is("chosen(2)", 2, x.chosen(2));
        for (int wrong : new int[] {-1, 3, 10, Integer.MAX_VALUE, Integer.MIN_VALUE}) {
            due.is("chosen(" + wrong + ")", -1, x.chosen(wrong));
        }
        due.is("a faulty text", 1, Due.read(x, "}"));
        due.is("chosen(2)", 2, x.chosen(2));
        due.is("a new text", 0, Due.read(x, "package a{1.0.0;}package b{}want b*;"));
        due.is("chosen(0)", -1, x.chosen(0));
        due.is("no solution", 0, x.resolve(false));
        due.is("chosen(0)", -1, x.chosen(0));
        due.end();
    }
}
