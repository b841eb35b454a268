import java.io.PrintWriter;
import java.io.StringWriter;
import java.util.ArrayDeque;
import java.util.ArrayList;
import java.util.Deque;
import java.util.HashMap;
import java.util.HashSet;
import java.util.List;
import java.util.Map;
import java.util.Optional;
import java.util.Set;
import java.util.TreeMap;
import java.util.TreeSet;
import java.util.regex.Matcher;
import java.util.regex.Pattern;
import java.util.spi.ToolProvider;

/** What the compiled class calls and makes, as the JDK's own javap prints it. */
final class Bytecode {
    private static final Pattern CLASS = Pattern.compile("^(?:\\w+ )*class ([\\w$]+).*");
    private static final Pattern METHOD = Pattern.compile("^  (?:[\\w.\\[\\]$]+ )*([\\w$]+)\\(.*\\);");
    private static final Pattern CALL = Pattern.compile(".* invoke\\w+ .*// (?:Interface)?Method (\\S+):.*");
    private static final Pattern MAKES = Pattern.compile("^ +\\d+: (new|newarray|anewarray|multianewarray) .*");
    private static final Pattern BANNED =
        Pattern.compile("^ +(\\d+: (athrow|invokedynamic|monitorenter|monitorexit)\\b.*|Exception table:)");

    final Map<String, Set<String>> ownCalls = new TreeMap<>();
    final Set<String> libraryCalls = new TreeSet<>();
    /* Methods that make objects or arrays, but for constructors. */
    final Set<String> makers = new TreeSet<>();
    final Set<String> bannedIn = new TreeSet<>();

    /* For the depths: Tarjan's way to methods that call one another. */
    private final Map<String, Integer> number = new HashMap<>();
    private final Map<String, Integer> lowest = new HashMap<>();
    private final Map<String, Integer> depths = new HashMap<>();
    private final Deque<String> open = new ArrayDeque<>();

    /** Without javap in this JDK: nothing. */
    static Optional<Bytecode> of(List<Class<?>> classes) {
        Optional<ToolProvider> javap = ToolProvider.findFirst("javap");
        if (javap.isEmpty()) {
            return Optional.empty();
        }
        List<String> args = new ArrayList<>(List.of("-p", "-c", "-cp", System.getProperty("java.class.path")));
        for (Class<?> c : classes) {
            args.add(c.getName());
        }
        StringWriter out = new StringWriter();
        PrintWriter printed = new PrintWriter(out);
        javap.get().run(printed, printed, args.toArray(new String[0]));
        printed.flush();
        Bytecode code = new Bytecode();
        code.read(out.toString().split("\\R"));
        return Optional.of(code);
    }

    private void read(String[] lines) {
        String owner = "";
        String method = "";
        for (String line : lines) {
            Matcher heads = CLASS.matcher(line);
            Matcher begins = METHOD.matcher(line);
            if (heads.matches()) {
                owner = heads.group(1);
            } else if (begins.matches()) {
                method = owner + "." + (begins.group(1).equals(owner) ? "\"<init>\"" : begins.group(1));
                ownCalls.putIfAbsent(method, new TreeSet<>());
            } else if (line.equals("  static {};")) {
                method = owner + ".static";
                ownCalls.putIfAbsent(method, new TreeSet<>());
            } else {
                readStep(line, owner, method);
            }
        }
    }

    private void readStep(String line, String owner, String method) {
        Matcher call = CALL.matcher(line);
        if (call.matches()) {
            String called = call.group(1).replace('/', '.');
            if (called.indexOf('.') < 0) {
                called = owner + "." + called;
            }
            if (called.startsWith("FaceCuts")) {
                ownCalls.get(method).add(called);
            } else {
                libraryCalls.add(called);
            }
        }
        if (MAKES.matcher(line).matches() && !method.endsWith("\"<init>\"")) {
            makers.add(method);
        }
        if (BANNED.matcher(line).matches()) {
            bannedIn.add(method);
        }
    }

    /** How many calls are open at once below a method, itself too; methods that call one another count once. */
    int depth(String method) {
        if (!number.containsKey(method)) {
            walk(method);
        }
        return depths.get(method);
    }

    private void walk(String method) {
        number.put(method, number.size());
        lowest.put(method, number.get(method));
        open.push(method);
        for (String called : ownCalls.getOrDefault(method, Set.of())) {
            if (!number.containsKey(called)) {
                walk(called);
            }
            if (!depths.containsKey(called)) {
                lowest.merge(method, lowest.get(called), Math::min);
            }
        }
        if (lowest.get(method).equals(number.get(method))) {
            close(method);
        }
    }

    private void close(String method) {
        Set<String> together = new HashSet<>();
        String last = "";
        while (!last.equals(method)) {
            last = open.pop();
            together.add(last);
        }
        int deepest = 0;
        for (String one : together) {
            for (String called : ownCalls.getOrDefault(one, Set.of())) {
                deepest = together.contains(called) ? deepest : Math.max(deepest, depths.get(called));
            }
        }
        for (String one : together) {
            depths.put(one, deepest + 1);
        }
    }
}
