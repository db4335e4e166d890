import java.util.ArrayList;
import java.util.Arrays;
import java.util.List;
import java.util.Random;

/**
 * Packages of one to six releases, wanted or not, whose releases clash with whole ranges of others or
 * need one of them: where much is closed at once, and a search that jumps back may jump too far.
 * Against all choices, gone through one by one.
 */
public final class WideClashesTest {
    private static final int NONE = RangeResolver.NONE;
    private static final int MOST = 1000;
    private static final Due DUE = new Due();

    private final Random random;
    private final int[] first;
    private final boolean[] wanted;
    /** At (release, package): the releases that may be chosen with it, and at 31 whether none may. */
    private final int[][] leaves;
    private final StringBuilder text = new StringBuilder();
    private int count = 0;
    private int[] best = null;

    private WideClashesTest(Random random) {
        this.random = random;
        int packs = 3 + random.nextInt(3);
        first = new int[packs + 1];
        for (int p = 0; p < packs; p++) {
            first[p + 1] = first[p] + 1 + random.nextInt(packs == 5 ? 4 : 6);
        }
        leaves = new int[first[packs]][packs];
        wanted = new boolean[packs];
        for (int p = 0; p < packs; p++) {
            wanted[p] = random.nextInt(10) > 0;
        }
    }

    public static void main(String[] args) {
        backToTheOneThatIsToBlame();
        Random random = new Random(3);
        int solved = 0;
        int failed = 0;
        for (int run = 0; run < 30000; run++) {
            WideClashesTest test = new WideClashesTest(random);
            test.tell(1 + random.nextInt(4), random.nextInt(10));
            test.goThrough(0, new int[test.wanted.length]);
            test.check();
            solved += test.best == null ? 0 : 1;
            failed += test.best == null ? 1 : 0;
            if (test.best == null && failed % 20 == 0) {
                checkReason(test.text.toString());
            }
        }
        System.out.println(solved + " registries with a solution, " + failed + " without");
        DUE.is("registries of both kinds", 1, solved > 5000 && failed > 5000 ? 1 : 0);
        DUE.end();
    }

    /** b closes half of c, and no a goes with the other half: another b must be tried, whichever stands first. */
    private static void backToTheOneThatIsToBlame() {
        String a = "package a{1.0.0 clash c<4;2.0.0 clash c<4;3.0.0 clash c<4;}";
        String b = "package b{1.0.0 clash c>3;2.0.0;}";
        String c = "package c{1.0.0;2.0.0;3.0.0;4.0.0;5.0.0;6.0.0;}";
        for (String packages : new String[] {a + b + c, a + c + b, b + a + c, b + c + a, c + a + b, c + b + a}) {
            RangeResolver x = Due.withRegistry(packages + "want a*;want b*;want c*;");
            DUE.is("solutions of " + packages, 9, x.solutions(MOST));
            DUE.is("resolve of " + packages, 1, x.resolve(false));
            DUE.is("chosen of " + packages, 3, x.count(4));
            x = Due.withRegistry(packages.replace("2.0.0;}", "2.0.0 clash c>5 clash c=4 clash c=5;}") + "want a*;want b*;want c*;");
            DUE.is("no solutions of " + packages, 0, x.solutions(MOST));
            DUE.is("resolve of " + packages, 0, x.resolve(false));
        }
    }

    private static void checkReason(String text) {
        RangeResolver x = Due.withRegistry(text);
        DUE.is("resolve of " + text, 0, x.resolve(false));
        List<Integer> reason = new ArrayList<>();
        for (int i = 0; i < x.count(5); i++) {
            reason.add(x.reason(i));
        }
        DUE.is("reason of " + text, Model.registry(text).reason().toString(), reason.toString());
    }

    private void tell(int links, int needs) {
        for (int p = 0; p < wanted.length; p++) {
            text.append("package ").append((char) ('a' + p)).append('{');
            for (int r = first[p]; r < first[p + 1]; r++) {
                text.append(r - first[p] + 1).append(".0.0");
                Arrays.fill(leaves[r], -1);
                for (int k = Math.max(random.nextInt(links + 1), random.nextInt(links + 1)); k > 0; k--) {
                    tellLink(r, (p + 1 + random.nextInt(wanted.length - 1)) % wanted.length, random.nextInt(20) < needs);
                }
                text.append(';');
            }
            text.append('}');
        }
        for (int p = 0; p < wanted.length; p++) {
            text.append(wanted[p] ? "want " + (char) ('a' + p) + "*;" : "");
        }
    }

    private void tellLink(int release, int target, boolean needs) {
        int size = first[target + 1] - first[target];
        int number = 1 + random.nextInt(size);
        char operator = "=<>".charAt(random.nextInt(3));
        int in = 0;
        for (int k = 1; k <= size; k++) {
            boolean is = operator == '=' ? k == number : operator == '<' ? k < number : k > number;
            in |= is ? 1 << k - 1 : 0;
        }
        leaves[release][target] &= needs ? in : ~in;
        text.append(needs ? " needs " : " clash ").append((char) ('a' + target)).append(operator).append(number);
    }

    private void goThrough(int p, int[] choice) {
        if (p == choice.length) {
            count++;
            best = best == null ? choice.clone() : best;
            return;
        }
        choice[p] = NONE;
        if (!wanted[p] && fits(p, choice)) {
            goThrough(p + 1, choice);
        }
        for (int r = first[p + 1] - 1; r >= first[p]; r--) {
            choice[p] = r;
            if (fits(p, choice)) {
                goThrough(p + 1, choice);
            }
        }
    }

    /** Whether what package p has goes with what those ahead have. */
    private boolean fits(int p, int[] choice) {
        for (int q = 0; q < p; q++) {
            if (!leaves(choice[p], q, choice[q]) || !leaves(choice[q], p, choice[p])) {
                return false;
            }
        }
        return true;
    }

    private boolean leaves(int release, int other, int chosen) {
        return release == NONE || (leaves[release][other] >> (chosen == NONE ? 31 : chosen - first[other]) & 1) == 1;
    }

    private void check() {
        RangeResolver x = Due.withRegistry(text.toString());
        DUE.is("resolve of " + text, best == null ? 0 : 1, x.resolve(false));
        DUE.is("solutions of " + text, Math.min(count, MOST), x.solutions(MOST));
        int[] chosen = new int[wanted.length];
        for (int p = 0; p < chosen.length; p++) {
            chosen[p] = x.chosen(p);
        }
        int[] none = new int[wanted.length];
        Arrays.fill(none, NONE);
        DUE.is("choice of " + text, Arrays.toString(best == null ? none : best), Arrays.toString(chosen));
    }
}
