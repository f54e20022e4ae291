import java.io.PrintWriter;
import java.io.StringWriter;
import java.util.ArrayList;
import java.util.HashMap;
import java.util.List;
import java.util.Map;
import java.util.Set;
import java.util.TreeMap;
import java.util.TreeSet;
import java.util.regex.Matcher;
import java.util.regex.Pattern;
import java.util.spi.ToolProvider;

/** What can be seen, in the compiled class, of the rules of ../shared/LANGUAGE.md. */
public final class BytecodeTests {
    private static final int DEEPEST = 8;

    private static final Set<String> LIBRARY = Set.of("java/lang/Object.<init>", "java/lang/String.length",
        "java/lang/String.charAt", "java/lang/Integer.bitCount", "java/lang/Math.max", "java/lang/Math.min",
        "java/lang/Math.abs", "java/lang/System.arraycopy", "java/util/Arrays.fill");

    private static final Set<String> FORBIDDEN = Set.of("athrow", "monitorenter", "monitorexit", "invokedynamic",
        "invokeinterface", "jsr", "ret");

    private static final Set<String> MAKING = Set.of("new", "newarray", "anewarray", "multianewarray");

    /** What each method calls, by "class.name:(kinds)kind". */
    private final Map<String, Set<String>> calls = new TreeMap<>();
    private final Map<String, Integer> depths = new HashMap<>();
    private final List<String> open = new ArrayList<>();
    private final Set<String> face = new TreeSet<>();

    private BytecodeTests() { }

    public static void main(String[] args) {
        BytecodeTests tests = new BytecodeTests();
        for (Class<?> c : LehrBelt.class.getNestMembers()) {
            tests.read(c.getName());
        }
        tests.depths();
        Checks.close("BytecodeTests");
    }

    private static String disassembled(String name) {
        StringWriter text = new StringWriter();
        ToolProvider javap = ToolProvider.findFirst("javap").orElseThrow();
        int code = javap.run(new PrintWriter(text), new PrintWriter(System.err), "-c", "-p", "-s", "-cp",
                System.getProperty("java.class.path"), name);
        Checks.is("javap of " + name, code, 0);
        return text.toString();
    }

    private void read(String name) {
        Pattern head = Pattern.compile("^  (\\S.*?)\\(.*\\);$");
        Pattern kinds = Pattern.compile("^    descriptor: (\\(.*)$");
        Pattern deed = Pattern.compile("^ +\\d+: (\\w+)(.*)$");
        String method = "";
        boolean constructor = false;
        boolean isPublic = false;
        for (String line : disassembled(name).lines().toList()) {
            Matcher m = head.matcher(line);
            if (m.find()) {
                method = m.group(1).replaceAll(".* ", "");
                constructor = method.equals(name);
                isPublic = line.startsWith("  public ");
            }
            m = kinds.matcher(line);
            if (m.find()) {
                method = name + "." + (constructor ? "<init>" : method) + ":" + m.group(1);
                calls.put(method, new TreeSet<>());
                if (isPublic) {
                    face.add(method);
                }
            }
            Checks.holds(method + " catches nothing", !line.contains("Exception table"));
            Checks.holds(name + " does nothing when it is loaded", !line.contains("static {}"));
            m = deed.matcher(line);
            if (m.find()) {
                Checks.holds(method + " does without " + m.group(1), !FORBIDDEN.contains(m.group(1)));
                Checks.holds(method + " makes nothing", constructor || !MAKING.contains(m.group(1)));
                if (m.group(1).startsWith("invoke")) {
                    called(name, method, m.group(2));
                }
            }
        }
    }

    private void called(String name, String caller, String told) {
        Matcher m = Pattern.compile("// Method (.*)$").matcher(told);
        Checks.holds(caller + ": " + told, m.find());
        String callee = m.group(1).replace("\"", "");
        String whole = callee.substring(0, callee.indexOf(':')).contains(".") ? callee : name + "." + callee;
        if (!whole.startsWith("LehrBelt")) {
            Checks.holds(caller + " calls " + whole, LIBRARY.contains(whole.substring(0, whole.indexOf(':'))));
        }
        calls.get(caller).add(whole);
    }

    private void depths() {
        Checks.is("methods and constructors of the face", face.size(), 86);
        int deepest = 0;
        for (String method : face) {
            int depth = depthOf(method);
            deepest = Math.max(deepest, depth);
            Checks.holds(method + " goes " + depth + " deep", depth <= DEEPEST);
        }
        Checks.holds("the calls were found", deepest > 3);
    }

    /** How many calls stand open at most, the method's own counted; a class of the library counts one. */
    private int depthOf(String method) {
        Integer known = depths.get(method);
        if (known != null) {
            return known;
        }
        Checks.holds(method + " does not come to call itself", !open.contains(method));
        if (open.contains(method)) {
            return DEEPEST;
        }
        Checks.holds(method + " was read", calls.containsKey(method) || !method.startsWith("LehrBelt"));
        open.add(method);
        int below = 0;
        for (String callee : calls.getOrDefault(method, Set.of())) {
            below = Math.max(below, depthOf(callee));
        }
        open.remove(method);
        depths.put(method, below + 1);
        return below + 1;
    }
}
