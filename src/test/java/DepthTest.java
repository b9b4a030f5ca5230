import java.io.PrintWriter;
import java.io.StringWriter;
import java.util.HashSet;
import java.util.Map;
import java.util.Set;
import java.util.TreeMap;
import java.util.TreeSet;
import java.util.regex.Matcher;
import java.util.regex.Pattern;
import java.util.spi.ToolProvider;

/** Calls that are no recursion go at most eight deep (LANGUAGE.md, 11), the library's own methods counted, too. */
public final class DepthTest {
    private static final int MOST = 8;
    private static final Pattern CLASS = Pattern.compile("^(?:\\w+ )*class (\\S+)");
    private static final Pattern METHOD = Pattern.compile("^  (?:[\\w\\[\\].$]+ )*([\\w.$]+)\\([^=]*\\);");
    private static final Pattern CALL = Pattern.compile("invoke\\w+ .*// (?:Interface)?Method (\\S+?):");

    private final Map<String, Set<String>> calls = new TreeMap<>();

    public static void main(String[] args) throws ReflectiveOperationException {
        DepthTest test = new DepthTest();
        for (Class<?> one : Class.forName("NextStall").getNestMembers()) {
            test.read(one.getName());
        }
        int asked = 0;
        for (String method : test.calls.keySet()) {
            if (method.startsWith("NextStall.")) {
                asked++;
                Due.is("calls below " + method + ", 8 at most", Math.max(MOST, test.depth(method, Set.of())), MOST);
            }
        }
        Due.is("36 methods, the constructor and what they share were found", Math.min(37, asked), 37);
        Due.is("calls were followed", Math.min(4, test.depth("NextStall.rings", Set.of())), 4);
        Due.end();
    }

    private void read(String name) {
        StringWriter written = new StringWriter();
        ToolProvider.findFirst("javap").orElseThrow().run(new PrintWriter(written), new PrintWriter(System.out),
                "-p", "-c", "-cp", System.getProperty("java.class.path"), name);
        String method = "";
        for (String line : written.toString().split("\n")) {
            Matcher opened = METHOD.matcher(line);
            Matcher call = CALL.matcher(line);
            if (opened.find() && !CLASS.matcher(line).find()) {
                String simple = opened.group(1);
                method = name + "." + (simple.equals(name) ? "<init>" : simple);
                calls.put(method, new TreeSet<>());
            } else if (call.find() && calls.containsKey(method)) {
                String called = call.group(1).replace("\"", "");
                calls.get(method).add(called.contains(".") ? called : name + "." + called);
            }
        }
    }

    /** What stands open already is recursion, which has a guard of its own. */
    private int depth(String method, Set<String> open) {
        if (open.contains(method)) {
            return 0;
        }
        Set<String> within = new HashSet<>(open);
        within.add(method);
        int most = 0;
        for (String called : calls.getOrDefault(method, Set.of())) {
            most = Math.max(most, depth(called, within));
        }
        return most + 1;
    }
}
