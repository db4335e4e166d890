import java.math.BigInteger;
import java.util.ArrayList;
import java.util.Collections;
import java.util.Comparator;
import java.util.List;
import java.util.regex.Matcher;
import java.util.regex.Pattern;

/**
 * The document's terms said once more, as slowly and plainly as can be, with the Java library: what
 * the tests with made-up inputs hold the class against.
 */
final class Model {
    private static final String NUMBER = "(?:0|[1-9][0-9]{0,8})";
    private static final String PRE = "(?:0|[1-9][0-9]{0,7}|(?=[0-9]*[A-Za-z-])[0-9A-Za-z-]{1,8})(?![0-9A-Za-z-])";
    private static final String BUILD = "[0-9A-Za-z-]{1,8}";
    private static final Pattern VERSION = Pattern.compile(
            "(" + NUMBER + ")\\.(" + NUMBER + ")\\.(" + NUMBER + ")"
            + "(?:-(" + PRE + "(?:\\." + PRE + "){0,3}))?"
            + "(?:\\+" + BUILD + "(?:\\." + BUILD + "){0,3})?");
    private static final Pattern SHORT = Pattern.compile(
            "(" + NUMBER + ")(?:\\.(" + NUMBER + ")(?:\\.x)?|(?:\\.x){0,2})");
    private static final Pattern TOKEN = Pattern.compile(
            "([a-z][a-z0-9_]*)|(\\*|(?:>=|<=|[=><^~]?)[A-Za-z0-9.+-]+)|(\\|\\||[{};])");
    private static final Pattern PART = Pattern.compile("(>=|<=|[=><^~]?)(.*)");

    /** A version without what is behind +; its identifiers are null if it has no -. */
    record Version(BigInteger[] numbers, List<String> identifiers) {
        @Override public String toString() {
            return numbers[0] + "." + numbers[1] + "." + numbers[2]
                    + (identifiers == null ? "" : "-" + String.join(".", identifiers));
        }
    }

    /** From low on below high; no high: without end. */
    record Stretch(Version low, Version high) {
    }

    static final Version LEAST = new Version(
            new BigInteger[] {BigInteger.ZERO, BigInteger.ZERO, BigInteger.ZERO}, List.of("0"));

    static Version version(String text) {
        Matcher m = VERSION.matcher(text);
        if (!m.matches()) {
            return null;
        }
        BigInteger[] numbers = {new BigInteger(m.group(1)), new BigInteger(m.group(2)), new BigInteger(m.group(3))};
        return new Version(numbers, m.group(4) == null ? null : List.of(m.group(4).split("\\.")));
    }

    static int compare(Version x, Version y) {
        for (int i = 0; i < 3; i++) {
            int side = x.numbers[i].compareTo(y.numbers[i]);
            if (side != 0) {
                return side;
            }
        }
        if (x.identifiers == null || y.identifiers == null) {
            return (x.identifiers == null ? 1 : 0) - (y.identifiers == null ? 1 : 0);
        }
        for (int i = 0; i < x.identifiers.size() && i < y.identifiers.size(); i++) {
            int side = compareIdentifiers(x.identifiers.get(i), y.identifiers.get(i));
            if (side != 0) {
                return side;
            }
        }
        return Integer.compare(x.identifiers.size(), y.identifiers.size());
    }

    private static int compareIdentifiers(String x, String y) {
        boolean xNumber = x.matches("[0-9]+");
        boolean yNumber = y.matches("[0-9]+");
        if (xNumber && yNumber) {
            return new BigInteger(x).compareTo(new BigInteger(y));
        }
        if (xNumber != yNumber) {
            return xNumber ? -1 : 1;
        }
        return Integer.signum(x.compareTo(y));
    }

    static Version next(Version v) {
        if (v.identifiers == null) {
            return raised(v, 2);
        }
        List<String> longer = new ArrayList<>(v.identifiers);
        longer.add("0");
        return new Version(v.numbers, longer);
    }

    private static Version raised(Version v, int index) {
        BigInteger[] numbers = new BigInteger[3];
        for (int i = 0; i < 3; i++) {
            numbers[i] = i < index ? v.numbers[i] : i == index ? v.numbers[i].add(BigInteger.ONE) : BigInteger.ZERO;
        }
        return new Version(numbers, List.of("0"));
    }

    /** The stretch of one part; null if the text is none. */
    static Stretch part(String text) {
        if (text.equals("*")) {
            return new Stretch(LEAST, null);
        }
        Matcher p = PART.matcher(text);
        if (!p.matches()) {
            return null;
        }
        Version v = version(p.group(2));
        if (v != null) {
            return wholePart(p.group(1), v);
        }
        Matcher s = SHORT.matcher(p.group(2));
        return s.matches() ? shortPart(p.group(1), s.group(1), s.group(2)) : null;
    }

    private static Stretch wholePart(String operator, Version v) {
        switch (operator) {
            case ">=": return new Stretch(v, null);
            case ">": return new Stretch(next(v), null);
            case "<": return new Stretch(LEAST, v);
            case "<=": return new Stretch(LEAST, next(v));
            case "^": return new Stretch(v, raised(v, v.numbers[0].signum() > 0 ? 0 : v.numbers[1].signum() > 0 ? 1 : 2));
            case "~": return new Stretch(v, raised(v, 1));
            default: return new Stretch(v, next(v));
        }
    }

    private static Stretch shortPart(String operator, String first, String second) {
        Version filled = version(first + "." + (second == null ? "0" : second) + ".0");
        Version u = raised(filled, second == null ? 0 : 1);
        switch (operator) {
            case ">=": return new Stretch(filled, null);
            case ">": return new Stretch(new Version(u.numbers, null), null);
            case "<": return new Stretch(LEAST, new Version(filled.numbers, List.of("0")));
            case "<=": return new Stretch(LEAST, u);
            case "^": return new Stretch(filled, second == null || !first.equals("0") ? raised(filled, 0) : u);
            default: return new Stretch(filled, u);
        }
    }

    interface Set {
        boolean has(Version v);
    }

    static boolean isIn(Stretch s, Version v) {
        return compare(s.low, v) <= 0 && (s.high == null || compare(v, s.high) < 0);
    }

    static Set setOf(List<Stretch> stretches) {
        return v -> stretches.stream().anyMatch(s -> isIn(s, v));
    }

    /** A set that can only change at these bounds, as stretches: as few as can be, from below. */
    static List<Stretch> stretches(Set set, List<Stretch> bounds) {
        List<Version> points = new ArrayList<>();
        points.add(LEAST);
        for (Stretch s : bounds) {
            points.add(s.low);
            if (s.high != null) {
                points.add(s.high);
            }
        }
        points.sort(Model::compare);
        List<Stretch> result = new ArrayList<>();
        Version start = null;
        for (Version point : points) {
            if (set.has(point) && start == null) {
                start = point;
            } else if (!set.has(point) && start != null) {
                result.add(new Stretch(start, point));
                start = null;
            }
        }
        if (start != null) {
            result.add(new Stretch(start, null));
        }
        return result;
    }

    /** The range that these parts, all by all, tell. */
    static List<Stretch> rangeOf(List<List<String>> alls) {
        List<List<Stretch>> parts = new ArrayList<>();
        List<Stretch> bounds = new ArrayList<>();
        for (List<String> all : alls) {
            List<Stretch> row = new ArrayList<>();
            for (String text : all) {
                row.add(part(text));
            }
            parts.add(row);
            bounds.addAll(row);
        }
        return stretches(v -> parts.stream().anyMatch(row -> row.stream().allMatch(s -> isIn(s, v))), bounds);
    }

    static String written(List<Stretch> range) {
        if (range.isEmpty()) {
            return "none";
        }
        List<String> texts = new ArrayList<>();
        for (Stretch s : range) {
            if (s.high != null && compare(next(s.low), s.high) == 0) {
                texts.add("=" + s.low);
                continue;
            }
            List<String> sides = new ArrayList<>();
            if (compare(s.low, LEAST) != 0) {
                sides.add(">=" + s.low);
            }
            if (s.high != null) {
                sides.add("<" + s.high);
            }
            texts.add(sides.isEmpty() ? "*" : String.join(" ", sides));
        }
        return String.join(" || ", texts);
    }

    record Token(String kind, String text, int place) {
    }

    static List<Token> tokens(String text) {
        List<Token> result = new ArrayList<>();
        int at = 0;
        while (at < text.length()) {
            if (text.charAt(at) == ' ' || text.charAt(at) == '\n') {
                at++;
                continue;
            }
            Matcher m = TOKEN.matcher(text).region(at, text.length());
            String found = m.lookingAt() ? m.group() : text.substring(at, at + 1);
            result.add(new Token(kindOf(m.lookingAt() ? m : null, found), found, at));
            at += found.length();
        }
        result.add(new Token("end", "", text.length()));
        return result;
    }

    private static String kindOf(Matcher m, String found) {
        if (m == null) {
            return "wrong";
        }
        if (m.group(1) != null) {
            if (found.matches("package|want|needs|clash")) {
                return found;
            }
            return found.length() > 12 ? "wrong" : "name";
        }
        if (m.group(3) != null) {
            return found;
        }
        return part(found) != null ? "part" : "wrong";
    }

    /** The first fault that a reader meets. */
    static final class Fault extends RuntimeException {
        private static final long serialVersionUID = 1L;
        final int answer;

        Fault(int kind, int place) {
            super("fault " + kind + " at " + place);
            answer = kind + 8 * place;
        }
    }

    record Release(int pack, String text, Version version) {
    }

    record Constraint(String kind, int holder, String name, int place, List<Stretch> range) {
    }

    final List<String> packs = new ArrayList<>();
    final List<Release> releases = new ArrayList<>();
    final List<Constraint> constraints = new ArrayList<>();
    private List<Token> tokens;
    private int at;
    private int[] targets;
    private boolean[][] within;
    private final List<List<Integer>> values = new ArrayList<>();

    /** A registry; throws its fault. */
    static Model registry(String text) {
        Model model = new Model();
        model.tokens = tokens(text);
        while (model.kind().equals("package")) {
            model.takePackage();
        }
        int wants = 0;
        while (model.kind().equals("want")) {
            if (++wants > 10) {
                throw model.fault(2);
            }
            model.takeConstraint(-1);
            model.expect(";");
        }
        model.expect("end");
        for (Constraint c : model.constraints) {
            if (!model.packs.contains(c.name)) {
                throw new Fault(4, c.place);
            }
        }
        return model;
    }

    /** A range to the end; throws its fault. */
    static List<Stretch> range(String text) {
        Model model = new Model();
        model.tokens = tokens(text);
        List<Stretch> range = model.takeRange();
        model.expect("end");
        return range;
    }

    private String kind() {
        return tokens.get(at).kind;
    }

    private Fault fault(int kind) {
        return new Fault(kind, tokens.get(at).place);
    }

    private Token expect(String kind) {
        if (!kind().equals(kind)) {
            throw fault(1);
        }
        Token token = tokens.get(at);
        if (!kind.equals("end")) {
            at++;
        }
        return token;
    }

    private void takePackage() {
        if (packs.size() == 10) {
            throw fault(2);
        }
        expect("package");
        if (kind().equals("name") && packs.contains(tokens.get(at).text)) {
            throw fault(3);
        }
        packs.add(expect("name").text);
        expect("{");
        int count = 0;
        while (kind().equals("part") && version(tokens.get(at).text) != null) {
            Version v = version(tokens.get(at).text);
            if (++count > 6) {
                throw fault(2);
            }
            for (Release r : releases) {
                if (r.pack == packs.size() - 1 && compare(r.version, v) == 0) {
                    throw fault(3);
                }
            }
            releases.add(new Release(packs.size() - 1, expect("part").text, v));
            int links = 0;
            while (kind().equals("needs") || kind().equals("clash")) {
                if (++links > 4) {
                    throw fault(2);
                }
                takeConstraint(releases.size() - 1);
            }
            expect(";");
        }
        expect("}");
    }

    private void takeConstraint(int holder) {
        String kind = tokens.get(at++).kind;
        Token name = expect("name");
        constraints.add(new Constraint(kind, holder, name.text, name.place, takeRange()));
    }

    private List<Stretch> takeRange() {
        List<List<String>> alls = new ArrayList<>();
        while (true) {
            if (kind().equals("part") && alls.size() == 16) {
                throw fault(2);
            }
            List<String> all = new ArrayList<>();
            all.add(expect("part").text);
            while (kind().equals("part")) {
                if (all.size() == 6) {
                    throw fault(2);
                }
                all.add(expect("part").text);
            }
            alls.add(all);
            if (!kind().equals("||")) {
                return rangeOf(alls);
            }
            at++;
        }
    }

    String releaseText(int r) {
        return packs.get(releases.get(r).pack) + " " + releases.get(r).text;
    }

    String constraintText(int c) {
        Constraint x = constraints.get(c);
        return (x.holder < 0 ? "" : releaseText(x.holder) + " ") + x.kind + " " + x.name + " " + written(x.range);
    }

    private boolean keeps(int[] choice, int c) {
        Constraint x = constraints.get(c);
        if (x.holder >= 0 && choice[releases.get(x.holder).pack] != x.holder) {
            return true;
        }
        int target = choice[targets[c]];
        return (target >= 0 && within[c][target]) != x.kind.equals("clash");
    }

    /** All choices that keep these constraints, the best one first, at most so many. */
    List<int[]> solutions(List<Integer> kept, int most) {
        if (targets == null) {
            prepare();
        }
        List<int[]> result = new ArrayList<>();
        addSolutions(0, new int[packs.size()], kept, most, result);
        return result;
    }

    /** What choices are asked for again and again. */
    private void prepare() {
        targets = new int[constraints.size()];
        within = new boolean[constraints.size()][releases.size()];
        for (int c = 0; c < targets.length; c++) {
            targets[c] = packs.indexOf(constraints.get(c).name);
            for (int r = 0; r < releases.size(); r++) {
                within[c][r] = setOf(constraints.get(c).range).has(releases.get(r).version);
            }
        }
        for (int p = 0; p < packs.size(); p++) {
            List<Integer> row = new ArrayList<>();
            for (int r = 0; r < releases.size(); r++) {
                if (releases.get(r).pack == p) {
                    row.add(r);
                }
            }
            row.sort(Comparator.comparing((Integer r) -> releases.get(r).version, Model::compare).reversed());
            row.add(0, -1);
            values.add(row);
        }
    }

    /** -1 for none, then the releases of package p from the greatest version down. */
    List<Integer> valuesOf(int p) {
        if (targets == null) {
            prepare();
        }
        return values.get(p);
    }

    private void addSolutions(int p, int[] choice, List<Integer> kept, int most, List<int[]> result) {
        if (p == choice.length) {
            for (int c : kept) {
                if (!keeps(choice, c)) {
                    return;
                }
            }
            result.add(choice.clone());
            return;
        }
        for (int value : values.get(p)) {
            if (result.size() < most) {
                choice[p] = value;
                addSolutions(p + 1, choice, kept, most, result);
            }
        }
    }

    List<Integer> allConstraints() {
        List<Integer> all = new ArrayList<>();
        for (int c = 0; c < constraints.size(); c++) {
            all.add(c);
        }
        return all;
    }

    /** The numbers of the constraints that are the reason why there is no solution. */
    List<Integer> reason() {
        List<Integer> left = allConstraints();
        for (int c = constraints.size() - 1; c >= 0; c--) {
            List<Integer> without = new ArrayList<>(left);
            without.remove((Integer) c);
            if (solutions(without, 1).isEmpty()) {
                left = without;
            }
        }
        Collections.sort(left);
        return left;
    }

    /** Why package p is in the choice: -1 if it isn't, or isn't reached. */
    int why(int[] choice, int p) {
        int[] steps = new int[packs.size()];
        int[] by = new int[packs.size()];
        for (int i = 0; i < steps.length; i++) {
            steps[i] = Integer.MAX_VALUE - 1;
            by[i] = -1;
        }
        for (int round = 0; round <= packs.size(); round++) {
            for (int c = 0; c < constraints.size(); c++) {
                Constraint x = constraints.get(c);
                int target = packs.indexOf(x.name);
                boolean used = x.kind.equals("want")
                        || x.kind.equals("needs") && choice[releases.get(x.holder).pack] == x.holder;
                int reached = !used ? Integer.MAX_VALUE - 1
                        : x.kind.equals("want") ? 0 : Math.min(steps[releases.get(x.holder).pack], 1000) + 1;
                if (reached <= 1000 && (reached < steps[target] || reached == steps[target] && c < by[target])) {
                    steps[target] = reached;
                    by[target] = c;
                }
            }
        }
        return choice[p] < 0 ? -1 : by[p];
    }
}
