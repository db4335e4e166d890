import java.util.Arrays;
import java.util.Random;

/**
 * Packages that are all wanted and whose releases clash pair by pair, about as often as not too much:
 * where a search goes wrong ways the most. Against all choices, gone through one by one.
 */
public final class DenseClashesTest {
    private static final Due DUE = new Due();

    private final int packs;
    private final int releases;
    private final boolean[][] clash;
    private final StringBuilder[] texts;
    private int count = 0;
    private int[] best = null;

    private DenseClashesTest(int packs, int releases) {
        this.packs = packs;
        this.releases = releases;
        clash = new boolean[packs * releases][packs * releases];
        texts = new StringBuilder[packs * releases];
        for (int i = 0; i < texts.length; i++) {
            texts[i] = new StringBuilder().append(i % releases + 1).append(".0.0");
        }
    }

    public static void main(String[] args) {
        Random random = new Random(1);
        for (int run = 0; run < 25000; run++) {
            int packs = 4 + random.nextInt(4);
            DenseClashesTest test = new DenseClashesTest(packs, 2 + random.nextInt(packs == 7 ? 2 : 3));
            test.addClashes(random, 0.1 + random.nextDouble() * 0.5);
            test.goThrough(0, new int[packs]);
            test.check();
        }
        for (String text : new String[] {
            "package a{1.0.0 clash b=1 clash b=2 clash b=3 clash b=4;2.0.0 clash b=2 clash c=4 clash d=3;3.0.0 clash c=1 clash d=4;"
                + "4.0.0 clash b=1 clash b=3 clash c=3 clash c=4;}package b{1.0.0 clash d=1 clash d=4;2.0.0 clash a=4 clash d=3;"
                + "3.0.0 clash a=2 clash a=3 clash c=2 clash d=1;4.0.0 clash a=3 clash d=4;}package c{1.0.0 clash a=1 clash a=4 clash b=1 clash d=1;"
                + "2.0.0 clash a=1 clash a=4 clash b=2 clash d=1;3.0.0 clash a=2 clash a=3 clash b=2 clash b=4;4.0.0 clash a=1 clash b=4 clash d=2 clash d=3;}"
                + "package d{1.0.0 clash a=1 clash a=2;2.0.0 clash b=2 clash b=4 clash c=1 clash c=2;3.0.0 clash a=1 clash b=3 clash c=1 clash c=2;"
                + "4.0.0 clash a=2 clash a=4 clash b=3 clash c=1;}want a*;want b*;want c*;want d*;",
            "package a{1.0.0 clash b=1 clash c=3;2.0.0 clash b=1 clash c=3 clash d=3;3.0.0 clash b=4 clash c=2;4.0.0 clash b=2 clash d=1 clash d=2;}"
                + "package b{1.0.0 clash c=4 clash d=1;2.0.0 clash c=4 clash d=1 clash d=3;3.0.0 clash a=2 clash c=3;4.0.0 clash a=4 clash c=3;}"
                + "package c{1.0.0 clash b=3 clash d=4;2.0.0 clash a=1 clash d=1 clash d=4;3.0.0 clash a=3 clash d=1;4.0.0 clash a=1 clash b=4 clash d=3;}"
                + "package d{1.0.0;2.0.0 clash b=1 clash b=2;3.0.0 clash c=1 clash c=2 clash c=3;4.0.0 clash b=4 clash c=3;}want a*;want b*;want c*;want d*;"}) {
            Model model = Model.registry(text);
            int[] best = model.solutions(model.allConstraints(), 1).get(0);
            RangeResolver x = Due.withRegistry(text);
            DUE.is("resolve of " + text, 1, x.resolve(false));
            for (int p = 0; p < best.length; p++) {
                DUE.is("chosen(" + p + ") of " + text, best[p], x.chosen(p));
            }
        }
        DUE.end();
    }

    private void addClashes(Random random, double density) {
        int[] links = new int[texts.length];
        for (int i = 0; i < texts.length; i++) {
            for (int j = 0; j < texts.length; j++) {
                int holder = random.nextBoolean() ? i : j;
                holder = links[holder] < 4 ? holder : i + j - holder;
                if (i / releases < j / releases && random.nextDouble() < density && links[holder] < 4) {
                    int target = i + j - holder;
                    links[holder]++;
                    texts[holder].append(" clash ").append((char) ('a' + target / releases)).append('=').append(target % releases + 1);
                    clash[i][j] = true;
                }
            }
        }
    }

    private void goThrough(int p, int[] choice) {
        if (p == packs) {
            count++;
            best = best == null ? choice.clone() : best;
            return;
        }
        for (int r = releases - 1; r >= 0; r--) {
            choice[p] = p * releases + r;
            boolean fits = true;
            for (int q = 0; q < p; q++) {
                fits = fits && !clash[choice[q]][choice[p]];
            }
            if (fits) {
                goThrough(p + 1, choice);
            }
        }
    }

    private void check() {
        StringBuilder text = new StringBuilder();
        for (int p = 0; p < packs; p++) {
            text.append("package ").append((char) ('a' + p)).append('{');
            for (int r = 0; r < releases; r++) {
                text.append(texts[p * releases + r]).append(';');
            }
            text.append('}');
        }
        for (int p = 0; p < packs; p++) {
            text.append("want ").append((char) ('a' + p)).append("*;");
        }
        if (text.length() > 2000) {
            return;
        }
        RangeResolver x = Due.withRegistry(text.toString());
        DUE.is("resolve of " + text, best == null ? 0 : 1, x.resolve(false));
        DUE.is("solutions of " + text, Math.min(count, 1000), x.solutions(1000));
        int[] chosen = new int[packs];
        for (int p = 0; p < packs; p++) {
            chosen[p] = x.chosen(p);
        }
        int[] none = new int[packs];
        Arrays.fill(none, -1);
        DUE.is("choice of " + text, Arrays.toString(best == null ? none : best), Arrays.toString(chosen));
    }
}
