import java.io.File;
import java.io.PrintWriter;
import java.io.StringWriter;
import java.util.ArrayList;
import java.util.Arrays;
import java.util.HashMap;
import java.util.HashSet;
import java.util.LinkedHashMap;
import java.util.List;
import java.util.Map;
import java.util.Set;
import java.util.TreeSet;
import java.util.regex.Matcher;
import java.util.regex.Pattern;
import java.util.spi.ToolProvider;

/** What ../shared/LANGUAGE.md says of calls, read from the compiled class: the library (4), depth and recursion (8, 11). */
public final class CallsTest {
    private static final Set<String> LIBRARY = new TreeSet<>(Arrays.asList("java/lang/Object.\"<init>\":()V",
        "java/lang/String.length:()I", "java/lang/String.charAt:(I)C", "java/lang/String.indexOf:(I)I",
        "java/lang/Math.min:(II)I", "java/lang/Math.max:(II)I", "java/lang/Math.abs:(I)I",
        "java/lang/System.arraycopy:(Ljava/lang/Object;ILjava/lang/Object;II)V", "java/util/Arrays.fill:([III)V",
        "java/util/Arrays.fill:([II)V"));
    private static final int DEEPEST = 8;

    private final Map<String, Set<String>> calls = new LinkedHashMap<>();
    private final Map<String, Integer> depths = new HashMap<>();

    private CallsTest() {
    }

    public static void main(String[] args) throws Exception {
        ToolProvider javap = ToolProvider.findFirst("javap").orElse(null);
        if (javap == null) {
            System.out.println("CallsTest: no javap here, nothing looked at");
            return;
        }
        File folder = new File(SpoutSpring.class.getProtectionDomain().getCodeSource().getLocation().toURI());
        List<String> asked = new ArrayList<>(Arrays.asList("-c", "-p"));
        for (File file : folder.listFiles()) {
            if (file.getName().matches("SpoutSpring(\\$\\w+)?\\.class")) {
                asked.add(file.getPath());
            }
        }
        StringWriter out = new StringWriter();
        Due.same("javap", javap.run(new PrintWriter(out), new PrintWriter(out), asked.toArray(new String[0])), 0);
        CallsTest test = new CallsTest();
        test.read(out.toString().split("\n"));
        test.look();
        Due.finish("CallsTest");
    }

    private void read(String[] lines) {
        Pattern type = Pattern.compile("^(?:\\w+ )*class (\\S+).*\\{$");
        Pattern head = Pattern.compile("^  (?:[\\w.$\\[\\]]+ )*([\\w.$]+)\\(.*\\);$");
        Pattern call = Pattern.compile("// (?:Interface)?Method (\\S+)");
        String own = "";
        String method = "";
        for (String line : lines) {
            Matcher m = type.matcher(line);
            if (m.find()) {
                own = m.group(1);
                continue;
            }
            m = head.matcher(line);
            if (m.find()) {
                method = own + "." + (m.group(1).equals(own) ? "\"<init>\"" : m.group(1));
                calls.computeIfAbsent(method, none -> new TreeSet<>());
                continue;
            }
            m = call.matcher(line);
            if (m.find()) {
                String name = m.group(1);
                boolean here = !name.substring(0, name.indexOf(':')).contains(".");
                calls.get(method).add(here ? own + "." + name : name);
            }
            Due.no(method + ": " + line.trim(), line.contains("invokedynamic"));
            boolean makes = line.matches(".*\\b(new|newarray|anewarray|multianewarray) +(#|int|long|byte|char|boolean).*");
            Due.no(method + " makes an object outside a constructor", makes && !method.endsWith("\"<init>\""));
        }
    }

    private void look() {
        Due.yes("the class has methods", calls.size() > 80);
        for (Map.Entry<String, Set<String>> one : calls.entrySet()) {
            for (String called : one.getValue()) {
                boolean own = calls.containsKey(plain(called));
                Due.yes(one.getKey() + " calls " + called, own || LIBRARY.contains(called));
            }
        }
        for (String method : calls.keySet()) {
            int depth = depth(method);
            Due.yes(method + " goes " + depth + " deep", depth <= DEEPEST);
            boolean readsLaws = method.matches("SpoutSpring\\$Laws\\.read(Either|Both|One|Sum|Term|Unit)");
            Due.no(method + " calls itself", reach(method).contains(method) && !readsLaws);
        }
    }

    private static String plain(String called) {
        return called.substring(0, called.indexOf(':'));
    }

    private Set<String> reach(String method) {
        Set<String> reached = new HashSet<>();
        List<String> open = new ArrayList<>(List.of(method));
        while (!open.isEmpty()) {
            for (String called : calls.get(open.remove(open.size() - 1))) {
                if (calls.containsKey(plain(called)) && reached.add(plain(called))) {
                    open.add(plain(called));
                }
            }
        }
        return reached;
    }

    /** How many own methods stand open at most, those that call one another counted once. */
    private int depth(String method) {
        Integer known = depths.get(method);
        if (known != null) {
            return known;
        }
        Set<String> round = new HashSet<>(Set.of(method));
        for (String called : reach(method)) {
            if (reach(called).contains(method)) {
                round.add(called);
            }
        }
        int deepest = 0;
        for (String one : round) {
            for (String called : calls.get(one)) {
                if (calls.containsKey(plain(called)) && !round.contains(plain(called))) {
                    deepest = Math.max(deepest, depth(plain(called)));
                }
            }
        }
        depths.put(method, deepest + 1);
        return deepest + 1;
    }
}
