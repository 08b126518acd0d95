import java.io.PrintWriter;
import java.io.StringWriter;
import java.util.HashMap;
import java.util.HashSet;
import java.util.Map;
import java.util.Set;
import java.util.TreeMap;
import java.util.TreeSet;
import java.util.regex.Matcher;
import java.util.regex.Pattern;
import java.util.spi.ToolProvider;

/**
 * LANGUAGE.md, 8 and 11, by the compiled class: calls that are no recursion go at most eight deep (methods
 * that call one another count once), and none calls itself but those that carry their depth.
 */
public final class DepthTest {
    private static final int DEEPEST = 8;
    private static final Set<String> CARRY_DEPTH = Set.of("Reader.readSum", "Reader.readProduct", "Reader.readOne",
            "Reader.readChoose", "Reader.readCase");
    private static final Pattern METHOD = Pattern.compile("  \\S.*?([\\w$.]+)\\([^()]*\\);");
    private static final Pattern CALLED = Pattern.compile(".*\\binvoke\\w+ .*// Method ([^:]+):.*");

    private final Map<String, Set<String>> calls = new TreeMap<>();
    private final Map<String, Set<String>> reach = new HashMap<>();
    private final Map<String, Integer> depth = new HashMap<>();

    public static void main(String[] args) {
        if (ToolProvider.findFirst("javap").isEmpty()) {
            System.out.println("this java has no javap in it: not looked at");
            return;
        }
        DepthTest test = new DepthTest();
        test.read("LastWordAt");
        for (Class<?> inside : LastWordAt.class.getDeclaredClasses()) {
            test.read(inside.getName());
        }
        test.look();
        Due.finish();
    }

    private void read(String type) {
        StringWriter out = new StringWriter();
        PrintWriter to = new PrintWriter(out);
        int exit = ToolProvider.findFirst("javap").orElseThrow().run(to, to, "-p", "-c", "-cp",
                System.getProperty("java.class.path"), type);
        Due.due("javap of " + type, exit, 0);
        Set<String> called = new TreeSet<>();
        for (String line : out.toString().split("\\R")) {
            Matcher method = METHOD.matcher(line);
            Matcher call = CALLED.matcher(line);
            if (method.matches()) {
                String name = method.group(1);
                called = calls.computeIfAbsent(shortly(type, name.equals(type) ? "new" : name), n -> new TreeSet<>());
            } else if (call.matches() && !call.group(1).contains("/")) {
                called.add(shortly(type, call.group(1).replace("\"<init>\"", "new")));
            }
        }
    }

    /** Reader.read of LastWordAt$Reader.read; read alone is one of the type's own. */
    private static String shortly(String type, String name) {
        String whole = name.contains(".") ? name : type + "." + name;
        return whole.replace("LastWordAt$", "");
    }

    private void look() {
        Due.due("all of the face is found", calls.containsKey("LastWordAt.about") && calls.containsKey("Reader.readOne"), true);
        for (String method : calls.keySet()) {
            reach.put(method, reachOf(method));
        }
        Set<String> again = new HashSet<>();
        for (String method : calls.keySet()) {
            if (reach.get(method).contains(method)) {
                again.add(method);
            }
        }
        Due.same("what calls itself", new TreeSet<>(again).toString(), new TreeSet<>(CARRY_DEPTH).toString());
        for (String method : calls.keySet()) {
            Due.due(method + " goes eight deep at most (" + depthOf(method) + ")", depthOf(method) <= DEEPEST, true);
        }
        Due.due("calls are found", depthOf("LastWordAt.years") > 3, true);
    }

    private Set<String> reachOf(String method) {
        Set<String> found = new HashSet<>();
        Set<String> next = new HashSet<>(calls.getOrDefault(method, Set.of()));
        while (!next.isEmpty()) {
            found.addAll(next);
            Set<String> more = new HashSet<>();
            for (String one : next) {
                more.addAll(calls.getOrDefault(one, Set.of()));
            }
            more.removeAll(found);
            next = more;
        }
        return found;
    }

    private int depthOf(String method) {
        if (depth.containsKey(method)) {
            return depth.get(method);
        }
        int deepest = 0;
        Set<String> together = new HashSet<>(Set.of(method));
        for (String one : reach.getOrDefault(method, Set.of())) {
            if (reach.getOrDefault(one, Set.of()).contains(method)) {
                together.add(one);
            }
        }
        for (String one : together) {
            for (String called : calls.getOrDefault(one, Set.of())) {
                deepest = together.contains(called) ? deepest : Math.max(deepest, depthOf(called));
            }
        }
        depth.put(method, deepest + 1);
        return deepest + 1;
    }
}
