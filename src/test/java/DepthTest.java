import java.io.PrintWriter;
import java.io.StringWriter;
import java.net.URISyntaxException;
import java.nio.file.Path;
import java.util.HashMap;
import java.util.HashSet;
import java.util.Map;
import java.util.Set;
import java.util.TreeMap;
import java.util.TreeSet;
import java.util.regex.Matcher;
import java.util.regex.Pattern;
import java.util.spi.ToolProvider;

/** LANGUAGE.md, 8 and 11: calls go at most eight deep, but for the recursion of sentences. */
final class DepthTest {
    private static final int MOST = 8;
    private static final Pattern CLASS = Pattern.compile("class (NightHelp[\\w$]*) ");
    private static final Pattern METHOD = Pattern.compile("^  [^ ].*?([\\w$]+)\\(.*\\).*;$");
    private static final Pattern CALL = Pattern.compile("invoke.*Method (?:(NightHelp[\\w$]*)\\.)?(\"<init>\"|\\w+):(\\S+)");

    private final Map<String, Set<String>> calls = new TreeMap<>();
    private final Map<String, Set<String>> reached = new HashMap<>();
    private final Map<String, Integer> depths = new HashMap<>();

    private DepthTest() {
    }

    public static void main(String[] args) throws URISyntaxException {
        DepthTest test = new DepthTest();
        test.read();
        Due.same("methods were read", test.calls.size() > 100, true);
        Set<String> recursive = new TreeSet<>();
        for (String method : test.calls.keySet()) {
            Due.same(method + " and what it calls, how deep: " + test.depth(method), test.depth(method) <= MOST, true);
            if (test.reached(method).contains(method)) {
                recursive.add(method.replaceAll("\\(.*", ""));
            }
        }
        Due.same("what calls itself: " + recursive, recursive.equals(Set.of("NightHelp$SentenceText.readCond",
            "NightHelp$SentenceText.readAnds", "NightHelp$SentenceText.readOne", "NightHelp$SentenceText.readNot",
            "NightHelp$SentenceText.readBracket")), true);
        Due.finish();
    }

    /** Who calls whom, as the compiled classes tell; the library's calls are left out. */
    private void read() throws URISyntaxException {
        Path place = Path.of(NightHelp.class.getProtectionDomain().getCodeSource().getLocation().toURI());
        String[] files = place.toFile().list((folder, name) -> name.matches("NightHelp(\\$.*)?\\.class"));
        for (String file : files) {
            StringWriter told = new StringWriter();
            PrintWriter out = new PrintWriter(told);
            ToolProvider.findFirst("javap").orElseThrow().run(out, out, "-p", "-c", "-s", place.resolve(file).toString());
            readClass(told.toString().split("\n"));
        }
    }

    private void readClass(String[] lines) {
        String owner = "";
        String name = "";
        String method = "";
        for (String line : lines) {
            Matcher classLine = CLASS.matcher(line);
            Matcher methodLine = METHOD.matcher(line);
            Matcher call = CALL.matcher(line);
            if (owner.isEmpty() && classLine.find()) {
                owner = classLine.group(1);
            } else if (methodLine.find()) {
                name = methodLine.group(1);
            } else if (line.startsWith("    descriptor: (")) {
                boolean makes = name.equals(owner) || owner.endsWith("$" + name) || name.contains("$");
                method = owner + "." + (makes ? "\"<init>\"" : name) + line.substring(line.indexOf('('));
                calls.put(method, new TreeSet<>());
            } else if (call.find() && (call.group(1) != null || !line.contains("java/"))) {
                String of = call.group(1) == null ? owner : call.group(1);
                calls.get(method).add(of + "." + call.group(2) + call.group(3));
            }
        }
    }

    private Set<String> reached(String method) {
        if (!reached.containsKey(method)) {
            Set<String> all = new HashSet<>();
            reach(method, all);
            reached.put(method, all);
        }
        return reached.get(method);
    }

    private void reach(String method, Set<String> all) {
        for (String next : calls.getOrDefault(method, Set.of())) {
            if (all.add(next)) {
                reach(next, all);
            }
        }
    }

    /** The method itself counts one; methods that call one another count one together. */
    private int depth(String method) {
        if (!depths.containsKey(method)) {
            Set<String> together = new HashSet<>(reached(method));
            together.removeIf(other -> !reached(other).contains(method));
            together.add(method);
            int most = 0;
            for (String one : together) {
                for (String next : calls.getOrDefault(one, Set.of())) {
                    most = together.contains(next) ? most : Math.max(most, depth(next));
                }
            }
            depths.put(method, most + 1);
        }
        return depths.get(method);
    }
}
