import java.util.ArrayList;
import java.util.List;
import java.util.Random;

/** Ranges made up at random, from a fixed seed, and their algebra, against the model. */
public final class MadeUpRangesTest {
    private static final String[] NUMBERS = {"0", "0", "1", "1", "2", "3", "10", "999999999"};
    private static final String[] IDENTIFIERS = {"0", "1", "9", "10", "a", "A", "ab", "a-", "-", "x1", "0a", "99999999", "zzzzzzzz"};
    private static final String[] OPERATORS = {"", "=", ">=", "<=", ">", "<", "^", "~"};

    public static void main(String[] args) {
        Due due = new Due();
        Random random = new Random(20261116);
        for (int run = 0; run < 1500; run++) {
            RangeResolver x = new RangeResolver();
            List<List<Model.Stretch>> slots = new ArrayList<>();
            for (int k = 0; k < 4; k++) {
                String text = range(random);
                if (random.nextInt(4) == 0) {
                    text = spoilt(random, text);
                }
                slots.add(checkRange(due, x, k, text));
            }
            checkAlgebra(due, x, slots, random);
        }
        for (int run = 0; run < 3000; run++) {
            checkOrder(due, random);
        }
        due.end();
    }

    private static List<Model.Stretch> checkRange(Due due, RangeResolver x, int k, String text) {
        List<Model.Stretch> range = List.of(new Model.Stretch(Model.LEAST, null));
        int answer = 0;
        try {
            range = Model.range(text);
        } catch (Model.Fault fault) {
            answer = fault.answer;
        }
        due.is("range of \"" + text + "\"", answer, Due.range(x, k, text));
        due.is("written \"" + text + "\"", Model.written(range), Due.written(x, 0, k));
        due.is("stretches of \"" + text + "\"", range.size(), x.count(16 + k));
        return range;
    }

    private static void checkAlgebra(Due due, RangeResolver x, List<List<Model.Stretch>> slots, Random random) {
        for (int step = 0; step < 6; step++) {
            int how = random.nextInt(3);
            int a = random.nextInt(4);
            int b = random.nextInt(4);
            int c = random.nextInt(4);
            List<Model.Stretch> result = Mirror.combined(how, slots.get(a), slots.get(b));
            String call = "combine(" + how + ", " + Model.written(slots.get(a)) + ", " + Model.written(slots.get(b)) + ")";
            due.is(call, result.size() > 16 ? -1 : result.size(), x.combine(how, a, b, c));
            if (result.size() <= 16) {
                slots.set(c, result);
            }
            due.is(call, Model.written(slots.get(c)), Due.written(x, 0, c));
            boolean inside = Mirror.combined(2, slots.get(a), slots.get(c)).isEmpty();
            due.is("inside behind " + call, inside ? 1 : 0, x.inside(a, c));
        }
    }

    private static void checkOrder(Due due, Random random) {
        String first = version(random);
        String second = random.nextInt(4) == 0 ? first : version(random);
        String text = blanks(random, 0) + first + blanks(random, 1) + second + blanks(random, 0);
        if (random.nextInt(5) == 0) {
            text = spoilt(random, text);
        }
        due.is("order of \"" + text + "\"", Mirror.orderOf(text), Due.order(new RangeResolver(), text));
    }

    private static String blanks(Random random, int least) {
        StringBuilder text = new StringBuilder();
        int many = least + (random.nextInt(3) == 0 ? random.nextInt(3) : 0);
        for (int i = 0; i < many; i++) {
            text.append(random.nextBoolean() ? ' ' : '\n');
        }
        return text.toString();
    }

    static String version(Random random) {
        StringBuilder text = new StringBuilder();
        for (int i = 0; i < 3; i++) {
            text.append(i == 0 ? "" : ".").append(NUMBERS[random.nextInt(NUMBERS.length)]);
        }
        if (random.nextInt(2) == 0) {
            addIdentifiers(random, text, '-');
        }
        if (random.nextInt(4) == 0) {
            addIdentifiers(random, text, '+');
        }
        return text.toString();
    }

    private static void addIdentifiers(Random random, StringBuilder text, char sign) {
        int count = 1 + random.nextInt(4);
        for (int i = 0; i < count; i++) {
            text.append(i == 0 ? sign : '.').append(IDENTIFIERS[random.nextInt(IDENTIFIERS.length)]);
        }
    }

    private static String part(Random random) {
        if (random.nextInt(12) == 0) {
            return "*";
        }
        String operator = OPERATORS[random.nextInt(OPERATORS.length)];
        if (random.nextInt(3) > 0) {
            return operator + version(random);
        }
        String first = NUMBERS[random.nextInt(NUMBERS.length)];
        String second = NUMBERS[random.nextInt(NUMBERS.length)];
        String[] forms = {first, first + ".x", first + ".x.x", first + "." + second, first + "." + second + ".x"};
        return operator + forms[random.nextInt(forms.length)];
    }

    static String range(Random random) {
        StringBuilder text = new StringBuilder();
        int alls = random.nextInt(8) == 0 ? 1 + random.nextInt(18) : 1 + random.nextInt(4);
        for (int i = 0; i < alls; i++) {
            text.append(i == 0 ? "" : random.nextBoolean() ? "||" : " || ");
            int parts = random.nextInt(30) == 0 ? 1 + random.nextInt(8) : 1 + random.nextInt(3);
            for (int k = 0; k < parts; k++) {
                text.append(k == 0 ? "" : random.nextInt(5) == 0 ? "\n" : " ").append(part(random));
            }
        }
        return text.toString();
    }

    /** One byte left out, put in, or another one. */
    static String spoilt(Random random, String text) {
        String signs = "0019xaZ_.-+*|=><^~ \n;{}#\u00e4\u0000";
        char sign = signs.charAt(random.nextInt(signs.length()));
        int at = random.nextInt(text.length() + 1);
        int kind = random.nextInt(3);
        String rest = text.substring(kind == 0 ? at : Math.min(text.length(), at + 1));
        return text.substring(0, at) + (kind == 1 ? "" : String.valueOf(sign)) + rest;
    }
}
