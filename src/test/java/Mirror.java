import java.util.ArrayList;
import java.util.Collections;
import java.util.List;

/**
 * The document's face once more, on Model's terms: what runs of calls are held against, call by call.
 * It keeps what it was told and works everything out anew.
 */
final class Mirror {
    static final String[] FACE = {"feed", "read", "range", "order", "combine", "inside", "holds", "write", "octet",
        "resolve", "chosen", "reason", "solutions", "why", "count"};
    private static final int NONE = -1;

    private final StringBuilder tape = new StringBuilder();
    private final List<List<Model.Stretch>> slots = new ArrayList<>(
        Collections.nCopies(16, List.of(new Model.Stretch(Model.LEAST, null))));
    private Model registry = new Model();
    private List<int[]> solutions = null;
    private List<Integer> reason = List.of();
    private int[] chosen = null;
    private int[] latestSolution = null;
    private String page = "";

    /** The call on the class itself; resolve takes 0 or 1. */
    static int call(RangeResolver x, String name, int... a) {
        switch (name) {
            case "feed": return x.feed(a[0], a[1], a[2], a[3], a[4]);
            case "read": return x.read(a[0]);
            case "range": return x.range(a[0], a[1]);
            case "order": return x.order(a[0]);
            case "combine": return x.combine(a[0], a[1], a[2], a[3]);
            case "inside": return x.inside(a[0], a[1]);
            case "holds": return x.holds(a[0], a[1]);
            case "write": return x.write(a[0], a[1]);
            case "octet": return x.octet(a[0]);
            case "resolve": return x.resolve(a[0] == 1);
            case "chosen": return x.chosen(a[0]);
            case "reason": return x.reason(a[0]);
            case "solutions": return x.solutions(a[0]);
            case "why": return x.why(a[0]);
            case "count": return x.count(a[0]);
            default: throw new IllegalArgumentException(name);
        }
    }

    /** What is due for it. */
    int call(String name, int... a) {
        switch (name) {
            case "feed": return feed(a);
            case "read": return read(a[0]);
            case "range": return range(a[0], a[1]);
            case "order": return order(a[0]);
            case "combine": return combine(a[0], a[1], a[2], a[3]);
            case "inside": return inside(a[0], a[1]);
            case "holds": return holds(a[0], a[1]);
            case "write": return write(a[0], a[1]);
            case "octet": return a[0] >= 0 && a[0] < page.length() ? page.charAt(a[0]) : NONE;
            case "resolve": return resolve(a[0] == 1);
            case "chosen": return chosen != null && a[0] >= 0 && a[0] < chosen.length ? chosen[a[0]] : NONE;
            case "reason": return a[0] >= 0 && a[0] < reason.size() ? reason.get(a[0]) : NONE;
            case "solutions": return a[0] < 1 || a[0] > 1000 ? NONE : Math.min(a[0], solutions().size());
            case "why": return chosen != null && a[0] >= 0 && a[0] < chosen.length ? registry.why(chosen, a[0]) : NONE;
            case "count": return count(a[0]);
            default: throw new IllegalArgumentException(name);
        }
    }

    private int feed(int[] ints) {
        if (tape.length() + 20 > 2000) {
            return NONE;
        }
        for (int four : ints) {
            tape.append((char) (four >>> 24)).append((char) (four >>> 16 & 255));
            tape.append((char) (four >>> 8 & 255)).append((char) (four & 255));
        }
        return tape.length();
    }

    /** The first n bytes of the tape, which is empty then; null if it has not so many, or n is below 0. */
    private String take(int n) {
        if (n < 0 || n > tape.length()) {
            return null;
        }
        String text = tape.substring(0, n);
        tape.setLength(0);
        return text;
    }

    private int read(int n) {
        String text = take(n);
        if (text == null) {
            return NONE;
        }
        try {
            registry = Model.registry(text);
        } catch (Model.Fault fault) {
            return fault.answer;
        }
        solutions = null;
        reason = List.of();
        chosen = null;
        latestSolution = null;
        return 0;
    }

    private int range(int k, int n) {
        String text = isSlot(k) ? take(n) : null;
        if (text == null) {
            return NONE;
        }
        try {
            slots.set(k, Model.range(text));
        } catch (Model.Fault fault) {
            return fault.answer;
        }
        return 0;
    }

    private int order(int n) {
        String text = take(n);
        return text == null ? NONE - 1 : orderOf(text);
    }

    static int orderOf(String text) {
        String[] both = text.replaceAll("^[ \\n]+", "").split("[ \\n]+");
        Model.Version x = both.length != 2 ? null : Model.version(both[0]);
        Model.Version y = both.length != 2 ? null : Model.version(both[1]);
        return x == null || y == null ? 2 : Integer.signum(Model.compare(x, y));
    }

    private int combine(int how, int a, int b, int c) {
        if (how < 0 || how > 2 || !isSlot(a) || !isSlot(b) || !isSlot(c)) {
            return NONE;
        }
        List<Model.Stretch> result = combined(how, slots.get(a), slots.get(b));
        if (result.size() > 16) {
            return NONE;
        }
        slots.set(c, result);
        return result.size();
    }

    static List<Model.Stretch> combined(int how, List<Model.Stretch> a, List<Model.Stretch> b) {
        List<Model.Stretch> bounds = new ArrayList<>(a);
        bounds.addAll(b);
        Model.Set inA = Model.setOf(a);
        Model.Set inB = Model.setOf(b);
        return Model.stretches(v -> how == 0 ? inA.has(v) && inB.has(v)
            : how == 1 ? inA.has(v) || inB.has(v) : inA.has(v) && !inB.has(v), bounds);
    }

    private int inside(int a, int b) {
        return !isSlot(a) || !isSlot(b) ? NONE : combined(2, slots.get(a), slots.get(b)).isEmpty() ? 1 : 0;
    }

    private int holds(int k, int r) {
        if (!isSlot(k) || r < 0 || r >= registry.releases.size()) {
            return NONE;
        }
        return Model.setOf(slots.get(k)).has(registry.releases.get(r).version()) ? 1 : 0;
    }

    private int write(int what, int k) {
        if (what == 0 && isSlot(k)) {
            page = Model.written(slots.get(k));
        } else if (what == 1 && k >= 0 && k < registry.releases.size()) {
            page = registry.releaseText(k);
        } else if (what == 2 && k >= 0 && k < registry.constraints.size()) {
            page = registry.constraintText(k);
        } else {
            return NONE;
        }
        return page.length();
    }

    private int resolve(boolean locked) {
        if (solutions().isEmpty()) {
            chosen = null;
            reason = registry.reason();
            return 0;
        }
        List<int[]> left = solutions();
        for (int p = 0; p < registry.packs.size(); p++) {
            left = withTheFirst(left, p, locked);
        }
        chosen = left.get(0);
        latestSolution = chosen;
        reason = List.of();
        return 1;
    }

    /** Those of the solutions that have, for package p, the first of its values with which there is one. */
    private List<int[]> withTheFirst(List<int[]> left, int p, boolean locked) {
        List<Integer> values = new ArrayList<>(registry.valuesOf(p));
        if (locked && latestSolution != null) {
            values.add(0, latestSolution[p]);
        }
        for (int value : values) {
            List<int[]> with = new ArrayList<>(left);
            with.removeIf(solution -> solution[p] != value);
            if (!with.isEmpty()) {
                return with;
            }
        }
        throw new IllegalStateException("a solution has none of the values of package " + p);
    }

    private List<int[]> solutions() {
        if (solutions == null) {
            solutions = registry.solutions(registry.allConstraints(), Integer.MAX_VALUE);
        }
        return solutions;
    }

    private int count(int what) {
        switch (what) {
            case 0: return registry.packs.size();
            case 1: return registry.releases.size();
            case 2: return registry.constraints.size();
            case 3: return tape.length();
            case 4: return chosen == null ? 0 : (int) java.util.Arrays.stream(chosen).filter(r -> r >= 0).count();
            case 5: return reason.size();
            default: return what >= 16 && what < 32 ? slots.get(what - 16).size() : NONE;
        }
    }

    private static boolean isSlot(int k) {
        return k >= 0 && k < 16;
    }
}
