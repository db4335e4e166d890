public final class Promise16CountTest {
    public static void main(String[] args) {
        Due due = new Due();
        RangeResolver x = Due.withRegistry("package a{1.0.0 needs b*;2.0.0;}package b{1.0.0;}package c{}want a=1;");
        due.is("packages", 3, x.count(0));
        due.is("releases", 3, x.count(1));
        due.is("constraints", 2, x.count(2));
        due.is("bytes of the tape", 0, x.count(3));
        due.is("chosen releases, nothing found yet", 0, x.count(4));
        due.is("constraints of the reason, nothing found yet", 0, x.count(5));
        due.is("resolve", 1, x.resolve(false));
        due.is("chosen releases", 2, x.count(4));
        due.is("constraints of the reason", 0, x.count(5));
        Due.feed(x, "package a{1.0.0 needs b*;}");
        due.is("bytes of the tape", 40, x.count(3));
        due.is("a text without solution", 0, Due.read(x, "") + Due.read(x, "package a{1.0.0 needs b*;}package b{}want a*;"));
        due.is("resolve", 0, x.resolve(false));
        due.is("chosen releases", 0, x.count(4));
        due.is("constraints of the reason", 2, x.count(5));
        due.is("an empty text", 0, x.read(0));
        due.is("packages", 0, x.count(0));
        due.is("releases", 0, x.count(1));
        due.is("constraints", 0, x.count(2));
        due.is("constraints of the reason", 0, x.count(5));
        due.is("range", 0, Due.range(x, 3, "1||2||5"));
        due.is("range", 0, Due.range(x, 15, "<0"));
        due.is("stretches of slot 0", 1, x.count(16));
        due.is("stretches of slot 3", 3, x.count(19));
        due.is("stretches of slot 15", 0, x.count(31));
        for (int wrong : new int[] {-1, 6, 15, 32, -16, Integer.MAX_VALUE, Integer.MIN_VALUE, Integer.MIN_VALUE + 16}) {
            due.is("count(" + wrong + ")", -1, x.count(wrong));
        }
        due.end();
    }
}
