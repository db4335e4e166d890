import java.util.List;
import java.util.Random;

/** Registries made up at random, from a fixed seed, against the model. */
public final class MadeUpRegistriesTest {
    private static final String[] NAMES = {"a", "b1", "c_c", "delta", "e"};
    private static final String[] RANGES = {"*", "1", "^1", "~1.1", ">=1.1.0", "<2", "2 || 1.0", "<1.1.0", ">1", "=1.0.0", "3", ">=1.0.0-a <1.0.1"};
    private static final String[] VERSIONS = {"1.0.0", "1.1.0", "2.0.0+x.01", "1.0.0-a", "2.1.0-0.a", "1.0.0+b", "0.9.0"};

    public static void main(String[] args) {
        Due due = new Due();
        Random random = new Random(16112026);
        int solved = 0;
        int failed = 0;
        for (int run = 0; run < 3000; run++) {
            RangeResolver x = new RangeResolver();
            String text = registry(random);
            if (random.nextInt(3) == 0) {
                text = MadeUpRangesTest.spoilt(random, text);
            }
            if (text.length() > 2000) {
                continue;
            }
            int answer = 0;
            Model model = new Model();
            try {
                model = Model.registry(text);
            } catch (Model.Fault fault) {
                answer = fault.answer;
            }
            due.is("read of \"" + text + "\"", answer, Due.read(x, text));
            check(due, text, x, model);
            if (answer == 0) {
                solved += x.count(5) == 0 ? 1 : 0;
                failed += x.count(5) > 0 ? 1 : 0;
            }
        }
        for (int run = 0; run < 400; run++) {
            String text = hardRegistry(random);
            RangeResolver x = new RangeResolver();
            due.is("read of \"" + text + "\"", 0, Due.read(x, text));
            check(due, text, x, Model.registry(text));
            solved += x.count(5) == 0 ? 1 : 0;
            failed += x.count(5) > 0 ? 1 : 0;
        }
        System.out.println(solved + " registries with a solution, " + failed + " without");
        due.is("registries of both kinds", 1, solved > 200 && failed > 200 ? 1 : 0);
        due.end();
    }

    private static void check(Due due, String text, RangeResolver x, Model model) {
        due.is("packages of " + text, model.packs.size(), x.count(0));
        due.is("releases of " + text, model.releases.size(), x.count(1));
        due.is("constraints of " + text, model.constraints.size(), x.count(2));
        for (int r = 0; r < model.releases.size(); r++) {
            due.is("release " + r + " of " + text, model.releaseText(r), Due.written(x, 1, r));
        }
        for (int c = 0; c < model.constraints.size(); c++) {
            due.is("constraint " + c + " of " + text, model.constraintText(c), Due.written(x, 2, c));
        }
        List<int[]> solutions = model.solutions(model.allConstraints(), 1000);
        due.is("solutions of " + text, Math.min(1000, solutions.size()), x.solutions(1000));
        due.is("solutions of " + text, Math.min(3, solutions.size()), x.solutions(3));
        for (int round = 0; round < 2; round++) {
            due.is("resolve of " + text, solutions.isEmpty() ? 0 : 1, x.resolve(round == 1));
            if (solutions.isEmpty()) {
                checkReason(due, text, x, model);
            } else {
                checkSolution(due, text, x, model, solutions.get(0));
            }
        }
    }

    private static void checkReason(Due due, String text, RangeResolver x, Model model) {
        List<Integer> reason = model.reason();
        due.is("size of the reason of " + text, reason.size(), x.count(5));
        for (int i = 0; i <= reason.size(); i++) {
            due.is("reason(" + i + ") of " + text, i < reason.size() ? reason.get(i) : -1, x.reason(i));
        }
        for (int p = -1; p <= model.packs.size(); p++) {
            due.is("chosen(" + p + ") of " + text, -1, x.chosen(p));
            due.is("why(" + p + ") of " + text, -1, x.why(p));
        }
        due.is("chosen releases of " + text, 0, x.count(4));
    }

    private static void checkSolution(Due due, String text, RangeResolver x, Model model, int[] best) {
        int sum = 0;
        for (int p = 0; p < best.length; p++) {
            sum += best[p] < 0 ? 0 : 1;
            due.is("chosen(" + p + ") of " + text, best[p], x.chosen(p));
            due.is("why(" + p + ") of " + text, model.why(best, p), x.why(p));
        }
        due.is("chosen releases of " + text, sum, x.count(4));
        due.is("size of the reason of " + text, 0, x.count(5));
        due.is("reason(0) of " + text, -1, x.reason(0));
    }

    static String registry(Random random) {
        StringBuilder text = new StringBuilder();
        int packs = 1 + random.nextInt(NAMES.length);
        int density = random.nextInt(4);
        for (int p = 0; p < packs; p++) {
            text.append("package ").append(NAMES[p]).append(random.nextBoolean() ? "{" : " {\n");
            int releases = random.nextInt(4);
            int shift = random.nextInt(VERSIONS.length);
            for (int k = 0; k < releases; k++) {
                text.append(VERSIONS[(k + shift) % VERSIONS.length]);
                for (int links = random.nextInt(density + 1); links > 0; links--) {
                    text.append(random.nextInt(3) == 0 ? " clash " : " needs ");
                    addTarget(random, text, packs);
                }
                text.append(random.nextBoolean() ? ";" : " ;\n");
            }
            text.append("}");
        }
        for (int wants = random.nextInt(4); wants > 0; wants--) {
            text.append(" want ");
            addTarget(random, text, packs);
            text.append(";");
        }
        return text.toString();
    }

    /** Few packages of many releases, of which most are wanted and clash with each other. */
    private static String hardRegistry(Random random) {
        int packs = 3 + random.nextInt(3);
        int releases = packs == 5 ? 4 : 6;
        int clashes = 1 + random.nextInt(4);
        StringBuilder text = new StringBuilder();
        for (int p = 0; p < packs; p++) {
            text.append("package ").append(NAMES[p]).append('{');
            for (int r = 1; r <= releases; r++) {
                text.append(r).append(".0.0");
                for (int k = random.nextInt(4); k >= 0; k--) {
                    int target = (p + 1 + random.nextInt(packs - 1)) % packs;
                    text.append(random.nextInt(4) < clashes ? " clash " : " needs ").append(NAMES[target]);
                    text.append(random.nextInt(3) == 0 ? '=' : random.nextBoolean() ? '<' : '>');
                    text.append(1 + random.nextInt(releases));
                }
                text.append(';');
            }
            text.append('}');
        }
        for (int p = 0; p < packs; p++) {
            text.append(random.nextInt(5) == 0 ? "" : "want " + NAMES[p] + ">=" + random.nextInt(3) + ";");
        }
        return text.toString();
    }

    private static void addTarget(Random random, StringBuilder text, int packs) {
        int known = random.nextInt(60) == 0 ? NAMES.length : packs;
        text.append(NAMES[random.nextInt(known)]).append(' ');
        text.append(random.nextInt(20) == 0 ? MadeUpRangesTest.range(random) : RANGES[random.nextInt(RANGES.length)]);
    }
}
