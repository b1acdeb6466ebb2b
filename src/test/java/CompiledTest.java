import java.io.PrintWriter;
import java.io.StringWriter;
import java.util.ArrayDeque;
import java.util.ArrayList;
import java.util.Arrays;
import java.util.Deque;
import java.util.HashMap;
import java.util.LinkedHashMap;
import java.util.List;
import java.util.Map;
import java.util.Set;
import java.util.TreeSet;
import java.util.regex.Matcher;
import java.util.regex.Pattern;
import java.util.spi.ToolProvider;

/** What of LANGUAGE.md is seen best in what the compiler makes of the class: library, things made, depth of calls. */
public final class CompiledTest {
    private static final Set<String> LIBRARY = new TreeSet<>(Arrays.asList(
        "java/lang/Object.<init>", "java/lang/String.length", "java/lang/String.charAt", "java/lang/String.indexOf",
        "java/lang/Math.abs", "java/lang/Math.max", "java/lang/Math.min", "java/lang/System.arraycopy"));
    private static final Pattern METHOD = Pattern.compile("  (?:[\\w$.\\[\\]]+ )*([\\w$]+)\\([^)]*\\);");
    private static final Pattern CALLED = Pattern.compile("invoke\\w+ .*// (?:Interface)?Method ([\\w/$]+\\.)?\"?([\\w<>]+)\"?:.*");
    private static final Due due = new Due("compiled");

    private final Map<String, Set<String>> calls = new LinkedHashMap<>();
    private final Set<String> kept = new TreeSet<>();
    private final Map<String, Integer> depths = new HashMap<>();

    public static void main(String[] args) {
        // CI promises javac and java alone; LanguageTest reads the same rules, more roughly.
        if (ToolProvider.findFirst("javap").isEmpty()) {
            System.out.println("compiled: not looked at, as this java has no javap");
            return;
        }
        CompiledTest test = new CompiledTest();
        List<String> classes = new ArrayList<>(Arrays.asList("RugIsJurisdiction"));
        for (Class<?> inside : RugIsJurisdiction.class.getDeclaredClasses()) {
            classes.add(inside.getName());
        }
        for (String name : classes) {
            test.read(name);
        }
        due.is("methods found, of the face and others", test.calls.size() > 37 ? 1 : 0, 1);
        test.depth();
        due.end();
    }

    private void read(String name) {
        StringWriter code = new StringWriter();
        PrintWriter out = new PrintWriter(code);
        String path = System.getProperty("java.class.path");
        due.is("javap of " + name, ToolProvider.findFirst("javap").get().run(out, out, "-p", "-c", "-cp", path, name), 0);
        String method = "";
        for (String line : code.toString().split("\n")) {
            due.is("rule 5: static block in " + name, line.contains("static {}") ? 1 : 0, 0);
            Matcher head = METHOD.matcher(line);
            if (head.matches()) {
                method = name + "." + (head.group(1).equals(name) ? "<init>" : head.group(1));
                due.is("one of a name: " + method, calls.put(method, new TreeSet<>()) == null ? 1 : 0, 1);
                if (line.startsWith("  private ")) {
                    kept.add(method);
                }
            } else if (line.matches(" +\\d+: .*")) {
                instruction(name, method, line.replaceAll("^ +\\d+: ", ""));
            }
        }
    }

    private void instruction(String name, String method, String code) {
        due.is("rules 2, 6: " + method + ": " + code, code.matches("(athrow|invokedynamic|monitor).*") ? 1 : 0, 0);
        boolean makes = code.matches("(new|newarray|anewarray|multianewarray)\\b.*");
        due.is("rule 12: made elsewhere than in a constructor: " + method, makes && !method.endsWith(".<init>") ? 1 : 0, 0);
        Matcher called = CALLED.matcher(code);
        if (!called.matches()) {
            due.is("a call that can't be read: " + code, code.startsWith("invoke") ? 1 : 0, 0);
            return;
        }
        String owner = called.group(1) == null ? name + "." : called.group(1);
        String callee = owner + called.group(2);
        if (owner.startsWith("RugIsJurisdiction")) {
            calls.get(method).add(callee);
        } else {
            due.is("rule 4: " + method + " calls " + callee, LIBRARY.contains(callee) ? 1 : 0, 1);
        }
    }

    /** Rule 11: calls that are no recursion go at most eight deep; methods that call one another count as one. */
    private void depth() {
        Map<String, Set<String>> reached = new HashMap<>();
        for (String method : calls.keySet()) {
            reached.put(method, reachedFrom(method));
        }
        for (String method : calls.keySet()) {
            int depth = depthOf(method, reached);
            due.is("rule 11: " + depth + " calls deep: " + method, depth <= 8 ? 1 : 0, 1);
            // Of these the depth was looked at: none goes deeper than five that are open.
            boolean mayRecur = kept.contains(method) && method.startsWith("RugIsJurisdiction$Reader.read");
            due.is("rule 8: calls itself: " + method, reached.get(method).contains(method) && !mayRecur ? 1 : 0, 0);
        }
    }

    private Set<String> reachedFrom(String method) {
        Set<String> found = new TreeSet<>();
        Deque<String> open = new ArrayDeque<>(calls.getOrDefault(method, Set.of()));
        while (!open.isEmpty()) {
            String next = open.poll();
            if (found.add(next)) {
                open.addAll(calls.getOrDefault(next, Set.of()));
            }
        }
        return found;
    }

    private int depthOf(String method, Map<String, Set<String>> reached) {
        if (depths.containsKey(method)) {
            return depths.get(method);
        }
        Set<String> asOne = new TreeSet<>(Set.of(method));
        for (String other : reached.getOrDefault(method, Set.of())) {
            if (reached.getOrDefault(other, Set.of()).contains(method)) {
                asOne.add(other);
            }
        }
        int deepest = 0;
        for (String one : asOne) {
            due.is("a method that was not found: " + one, calls.containsKey(one) ? 1 : 0, 1);
            for (String next : calls.getOrDefault(one, Set.of())) {
                deepest = Math.max(deepest, asOne.contains(next) ? 0 : depthOf(next, reached));
            }
        }
        depths.put(method, deepest + 1);
        return deepest + 1;
    }
}
