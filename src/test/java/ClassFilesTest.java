import java.io.File;
import java.io.PrintWriter;
import java.io.StringWriter;
import java.nio.file.Path;
import java.util.ArrayList;
import java.util.HashSet;
import java.util.List;
import java.util.Map;
import java.util.Optional;
import java.util.Set;
import java.util.TreeMap;
import java.util.TreeSet;
import java.util.regex.Matcher;
import java.util.regex.Pattern;
import java.util.spi.ToolProvider;

/** What of LANGUAGE.md the compiled class shows: its library, how calls recur and how deep they go, what it makes. */
public final class ClassFilesTest {
    private static final Set<String> LIBRARY = Set.of(
        "java/lang/Object.<init>", "java/lang/Math.max", "java/lang/Math.min", "java/lang/Math.abs",
        "java/lang/Math.floorMod", "java/lang/Math.floorDiv", "java/lang/Integer.bitCount", "java/lang/String.length",
        "java/lang/String.charAt", "java/lang/System.arraycopy", "java/util/Arrays.fill");
    private static final Set<String> NEVER = Set.of("athrow", "monitorenter", "monitorexit", "invokedynamic",
        "invokeinterface", "checkcast", "instanceof");
    private static final int DEEPEST = 8;

    private static final Pattern TYPE = Pattern.compile("^(?:[a-z]+ )*class (\\S+).* \\{$");
    private static final Pattern METHOD = Pattern.compile("^  ((?:[a-z]+ )*)(?:\\S+ )?(\\S+)\\(.*\\);$");
    private static final Pattern STATIC_START = Pattern.compile("^  static \\{\\};$");
    private static final Pattern OPERATION = Pattern.compile(
        "^ +\\d+: (\\w+)(?: .*?(?:// (?:Interface)?(?:Method|Field|class) (\\S+))?)?$");

    private static final Map<String, String> heads = new TreeMap<>();
    private static final Map<String, Set<String>> calls = new TreeMap<>();
    private static final Map<String, Integer> depths = new TreeMap<>();
    private static int wrong = 0;

    public static void main(String[] args) throws Exception {
        Optional<ToolProvider> javap = ToolProvider.findFirst("javap");
        if (javap.isEmpty()) {
            System.out.println("this Java has no javap to look with");
            return;
        }
        read(disassembled(javap.get()));
        is(heads.size() > 150, "only " + heads.size() + " methods were found");
        is(recur("NoneSees$Acts.run") && !recur("NoneSees.hold"), "recursion is found");
        for (String method : heads.keySet()) {
            recursion(method);
            boolean open = heads.get(method).contains("public ");
            is(!open || deep(method) <= DEEPEST, "LANGUAGE.md 11, \"at most eight deep\": " + method + " leads "
                + deep(method) + " deep");
        }
        System.out.println(heads.size() + " methods looked at, " + wrong + " wrong");
        if (wrong != 0) {
            System.exit(1);
        }
    }

    private static void is(boolean good, String what) {
        if (!good) {
            wrong++;
            System.out.println(what);
        }
    }

    private static String disassembled(ToolProvider javap) throws Exception {
        File folder = Path.of(NoneSees.class.getProtectionDomain().getCodeSource().getLocation().toURI()).toFile();
        List<String> words = new ArrayList<>(List.of("-c", "-p"));
        for (File file : folder.listFiles()) {
            if (file.getName().matches("NoneSees(\\$\\w+)?\\.class")) {
                words.add(file.getPath());
            }
        }
        StringWriter text = new StringWriter();
        int code = javap.run(new PrintWriter(text), new PrintWriter(System.err), words.toArray(new String[0]));
        is(code == 0, "javap ended with " + code);
        return text.toString();
    }

    private static void read(String text) {
        String type = "";
        String method = "";
        for (String line : text.split("\r?\n")) {
            Matcher typeHead = TYPE.matcher(line);
            Matcher methodHead = METHOD.matcher(line);
            Matcher operation = OPERATION.matcher(line);
            if (typeHead.matches()) {
                type = typeHead.group(1);
            } else if (STATIC_START.matcher(line).matches()) {
                method = begin(type + ".<clinit>", "static ");
            } else if (methodHead.matches()) {
                String name = methodHead.group(2);
                method = begin(type + "." + (name.equals(type) ? "<init>" : name), methodHead.group(1));
            } else if (operation.matches()) {
                lookAt(type, method, operation.group(1), operation.group(2));
            }
        }
    }

    private static String begin(String method, String head) {
        is(heads.put(method, head) == null, method + " is there twice");
        calls.put(method, new TreeSet<>());
        return method;
    }

    private static void lookAt(String type, String method, String operation, String named) {
        is(!NEVER.contains(operation), "LANGUAGE.md 2, 6: " + method + " has " + operation);
        if (operation.equals("putstatic")) {
            is(method.endsWith(".<clinit>"), "LANGUAGE.md 5: " + method + " changes " + named);
        }
        if (operation.matches("new|newarray|anewarray|multianewarray")) {
            is(method.matches(".*\\.<(cl)?init>"), "LANGUAGE.md 12: " + method + " makes an object in a call");
        }
        if (operation.startsWith("invoke")) {
            String whole = named.substring(0, named.indexOf(':')).replace("\"", "");
            String called = whole.contains(".") ? whole : type + "." + whole;
            calls.get(method).add(called);
            boolean listed = called.startsWith("NoneSees") || LIBRARY.contains(called);
            is(listed, "LANGUAGE.md 4: " + method + " calls " + called);
        }
    }

    /** A method that comes back to itself is private; if it calls no other that does, it is static too. */
    private static void recursion(String method) {
        if (!recur(method)) {
            return;
        }
        String rule = "LANGUAGE.md 8, \"Recursion: a private static method that calls itself, private methods that call"
            + " one another\": ";
        is(heads.get(method).contains("private "), rule + method + " recurs and is not private");
        boolean alone = together(method).size() == 1;
        is(!alone || heads.get(method).contains("static "), rule + method + " calls itself and is not static");
    }

    private static Set<String> reached(String method) {
        Set<String> reached = new HashSet<>();
        List<String> left = new ArrayList<>(calls.getOrDefault(method, Set.of()));
        while (!left.isEmpty()) {
            String next = left.remove(left.size() - 1);
            if (reached.add(next)) {
                left.addAll(calls.getOrDefault(next, Set.of()));
            }
        }
        return reached;
    }

    private static boolean recur(String method) {
        return reached(method).contains(method);
    }

    /** The methods that call one another with this one; itself alone, if there are none. */
    private static Set<String> together(String method) {
        Set<String> all = new TreeSet<>(Set.of(method));
        for (String other : reached(method)) {
            if (reached(other).contains(method)) {
                all.add(other);
            }
        }
        return all;
    }

    /** How many calls can stand open from this one on, those that recur counted once each. */
    private static int deep(String method) {
        Integer known = depths.get(method);
        if (known != null) {
            return known;
        }
        Set<String> group = together(method);
        int most = 0;
        for (String one : group) {
            for (String called : calls.getOrDefault(one, Set.of())) {
                most = group.contains(called) ? most : Math.max(most, deep(called));
            }
        }
        depths.put(method, most + group.size());
        return most + group.size();
    }
}
