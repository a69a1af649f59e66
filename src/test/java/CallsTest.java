import java.io.PrintWriter;
import java.io.StringWriter;
import java.nio.file.Files;
import java.nio.file.Path;
import java.util.ArrayList;
import java.util.List;
import java.util.Map;
import java.util.Set;
import java.util.TreeMap;
import java.util.TreeSet;
import java.util.regex.Matcher;
import java.util.regex.Pattern;
import java.util.spi.ToolProvider;

/**
 * What of LANGUAGE.md can be seen from the compiled class, as javap tells it: which method calls
 * which one. Rule 11: calls that are no recursion go at most eight deep. Rule 8: only private
 * methods call themselves or one another. Rule 4: of the library nothing but what it lists.
 */
final class CallsTest {
    private static final int DEEPEST = 8;
    private static final Set<String> LIBRARY = Set.of("java/lang/Integer.bitCount", "java/lang/Math.max",
        "java/lang/Math.min", "java/lang/String.charAt", "java/lang/String.length", "java/lang/System.arraycopy",
        "java/util/NoSuchElementException.<init>", "java/lang/Object.<init>", "java/lang/Enum.<init>",
        "java/lang/Enum.valueOf", "[LCombTable$Term;.clone");
    private static final Pattern HEAD = Pattern.compile("  (\\S.* )?([\\w$]+)\\(.*\\).*;");
    private static final Pattern CALLED = Pattern.compile(".*// (?:Interface)?Method ([^:]+):\\(.*");

    private final Map<String, Set<String>> calls = new TreeMap<>();
    private final Set<String> hidden = new TreeSet<>();
    private final Set<String> open = new TreeSet<>();
    private final Map<String, Set<String>> reached = new TreeMap<>();
    private final Map<String, Integer> depths = new TreeMap<>();

    private CallsTest() {
    }

    private static List<Path> classes() throws Exception {
        Path place = Path.of(CombTable.class.getProtectionDomain().getCodeSource().getLocation().toURI());
        List<Path> all = new ArrayList<>();
        try (var files = Files.list(place)) {
            files.filter(f -> f.getFileName().toString().matches("CombTable(\\$\\w+)?\\.class")).forEach(all::add);
        }
        return all;
    }

    private void read(String owner, String told) {
        String caller = "";
        for (String line : told.split("\n")) {
            Matcher head = HEAD.matcher(line);
            Matcher called = CALLED.matcher(line);
            if (!line.startsWith("   ") && head.matches()) {
                boolean makes = head.group(2).equals(owner);
                caller = owner + "." + (makes ? "<init>" : head.group(2));
                calls.putIfAbsent(caller, new TreeSet<>());
                (line.startsWith("  private ") ? hidden : open).add(caller);
            } else if (line.startsWith("  static {}")) {
                caller = owner + ".<clinit>";
                calls.put(caller, new TreeSet<>());
            } else if (called.matches() && !caller.isEmpty()) {
                String name = called.group(1).replace("\"", "");
                calls.get(caller).add(name.contains(".") ? name : owner + "." + name);
            }
        }
    }

    /** All methods of the class that a method comes to, by calls of calls. */
    private Set<String> reachedFrom(String method) {
        if (!reached.containsKey(method)) {
            Set<String> all = new TreeSet<>();
            List<String> next = new ArrayList<>(calls.get(method));
            while (!next.isEmpty()) {
                String one = next.remove(next.size() - 1);
                if (calls.containsKey(one) && all.add(one)) {
                    next.addAll(calls.get(one));
                }
            }
            reached.put(method, all);
        }
        return reached.get(method);
    }

    private boolean together(String one, String other) {
        return one.equals(other) || reachedFrom(one).contains(other) && reachedFrom(other).contains(one);
    }

    /** How many methods stand open at most below this one; those that call one another count each. */
    private int depthOf(String method) {
        Integer known = depths.get(method);
        if (known != null) {
            return known;
        }
        int own = 0;
        int below = 0;
        for (String member : calls.keySet()) {
            if (together(method, member)) {
                own++;
                for (String called : calls.get(member)) {
                    if (calls.containsKey(called) && !together(method, called)) {
                        below = Math.max(below, depthOf(called));
                    }
                }
            }
        }
        depths.put(method, own + below);
        return own + below;
    }

    private void go(ToolProvider javap) throws Exception {
        for (Path file : classes()) {
            StringWriter out = new StringWriter();
            PrintWriter printer = new PrintWriter(out);
            int exit = javap.run(printer, printer, "-c", "-p", file.toString());
            Due.is("javap reads " + file.getFileName(), 0, exit);
            read(file.getFileName().toString().replace(".class", ""), out.toString());
        }
        Due.is("the face is there", true, open.contains("CombTable.road") && hidden.contains("CombTable.roadLength"));
        Due.is("calls are there", true, calls.get("CombTable.road").contains("CombTable.roadLength"));
        for (String method : calls.keySet()) {
            int depth = depthOf(method);
            Due.is("rule 11: " + method + " goes " + depth + " deep; in bounds", true, depth <= DEEPEST);
            boolean again = reachedFrom(method).contains(method);
            Due.is("rule 8: " + method + " comes back to itself, it is private", true, !again || hidden.contains(method));
            for (String called : calls.get(method)) {
                boolean known = calls.containsKey(called) || LIBRARY.contains(called);
                Due.is("rule 4: " + method + " may use " + called, true, known);
            }
        }
        Due.is("some recursion is seen", true, reachedFrom("CombTable$Sentence.readOne").contains("CombTable$Sentence.readOne"));
    }

    public static void main(String[] args) throws Exception {
        var javap = ToolProvider.findFirst("javap");
        if (javap.isPresent()) {
            new CallsTest().go(javap.get());
        } else {
            System.out.println("CallsTest: this JDK has no javap, nothing is looked at");
        }
        Due.close("CallsTest");
    }
}
