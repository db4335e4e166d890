import java.io.PrintWriter;
import java.io.StringWriter;
import java.lang.reflect.Method;
import java.lang.reflect.Modifier;
import java.util.ArrayList;
import java.util.List;
import java.util.Map;
import java.util.Set;
import java.util.TreeMap;
import java.util.TreeSet;
import java.util.regex.Matcher;
import java.util.regex.Pattern;
import java.util.spi.ToolProvider;

/**
 * LANGUAGE.md: calls that are no recursion go at most eight deep, only private static methods call
 * themselves, and methods stay short. As javap tells them of the compiled class.
 */
public final class CallDepthTest {
    private static final int DEEPEST = 8;
    private static final int LONGEST = 60;
    private static final Pattern METHOD = Pattern.compile("  (?:[\\w$.\\[\\]]+ )*([\\w$]+)\\(.*\\);");
    private static final Pattern CALL = Pattern.compile("// Method (?:([\\w$/]+)\\.)?\"?([\\w<>]+)\"?:");
    private static final Pattern LINE = Pattern.compile("      line (\\d+): \\d+");
    private static final Due DUE = new Due();

    private final Map<String, Set<String>> calls = new TreeMap<>();
    private final Map<String, List<Integer>> lines = new TreeMap<>();

    public static void main(String[] args) {
        if (ToolProvider.findFirst("javap").isEmpty()) {
            // .ci/run asks for javac and java alone
            System.out.println("not looked at: this Java has no javap");
            return;
        }
        CallDepthTest test = new CallDepthTest();
        test.look(RangeResolver.class);
        for (Class<?> inside : RangeResolver.class.getDeclaredClasses()) {
            test.look(inside);
        }
        DUE.is("the calls of the face are seen", 1, test.calls.containsKey("RangeResolver.resolve") ? 1 : 0);
        for (String method : test.calls.keySet()) {
            DUE.is(method + " calls itself by no way round", "", test.wayRound(method));
            List<Integer> own = test.lines.get(method);
            DUE.is(method + " is short", 1, own.isEmpty() || own.get(own.size() - 1) - own.get(0) < LONGEST ? 1 : 0);
        }
        int deepest = 0;
        for (String method : test.calls.keySet()) {
            deepest = Math.max(deepest, test.depth(method, 0));
        }
        System.out.println("calls go " + deepest + " deep");
        DUE.is("calls are at most eight deep", 1, deepest > 1 && deepest <= DEEPEST ? 1 : 0);
        DUE.end();
    }

    private void look(Class<?> type) {
        StringWriter out = new StringWriter();
        ToolProvider javap = ToolProvider.findFirst("javap").orElseThrow();
        PrintWriter printer = new PrintWriter(out);
        String[] asked = {"-p", "-c", "-l", "-cp", System.getProperty("java.class.path"), type.getName()};
        DUE.is("javap of " + type, 0, javap.run(printer, printer, asked));
        String method = null;
        for (String text : out.toString().split("\\R")) {
            Matcher head = METHOD.matcher(text);
            Matcher call = CALL.matcher(text);
            Matcher line = LINE.matcher(text);
            if (head.matches()) {
                String name = head.group(1).startsWith("RangeResolver") ? "<init>" : head.group(1);
                method = type.getName() + "." + name;
                calls.putIfAbsent(method, new TreeSet<>());
                lines.put(method, new ArrayList<>());
            } else if (method != null && call.find()) {
                String owner = call.group(1) == null ? type.getName() : call.group(1);
                addCall(type, method, owner + "." + call.group(2));
            } else if (method != null && line.matches()) {
                lines.get(method).add(Integer.parseInt(line.group(1)));
            }
        }
        lines.values().forEach(numbers -> numbers.sort(null));
    }

    private void addCall(Class<?> type, String from, String to) {
        if (from.equals(to)) {
            for (Method method : type.getDeclaredMethods()) {
                int due = Modifier.PRIVATE | Modifier.STATIC;
                boolean same = from.equals(type.getName() + "." + method.getName());
                DUE.is(from + ", which calls itself, is private and static", due, same ? method.getModifiers() : due);
            }
        } else if (to.startsWith("RangeResolver")) {
            calls.get(from).add(to);
        }
    }

    /** How it comes back to itself through others; empty if it doesn't. */
    private String wayRound(String method) {
        Set<String> reached = new TreeSet<>();
        List<String> open = new ArrayList<>(calls.get(method));
        while (!open.isEmpty()) {
            String next = open.remove(open.size() - 1);
            if (next.equals(method)) {
                return method + " among " + reached;
            }
            if (reached.add(next)) {
                open.addAll(calls.getOrDefault(next, Set.of()));
            }
        }
        return "";
    }

    private int depth(String method, int above) {
        int deepest = above + 1;
        for (String called : calls.getOrDefault(method, Set.of())) {
            deepest = above > 2 * DEEPEST ? deepest : Math.max(deepest, depth(called, above + 1));
        }
        return deepest;
    }
}
