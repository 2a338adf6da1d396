import java.io.File;
import java.io.PrintWriter;
import java.io.StringWriter;
import java.util.ArrayList;
import java.util.HashMap;
import java.util.List;
import java.util.Map;
import java.util.Set;
import java.util.TreeSet;
import java.util.regex.Matcher;
import java.util.regex.Pattern;
import java.util.spi.ToolProvider;

/** LANGUAGE.md's rules on calls, seen in the compiled class: the library (4), what is thrown (6), depth (8, 11). */
public final class CallsTest {
    private static final Set<String> LIBRARY = Set.of(
        "java/lang/Object.\"<init>\"", "java/lang/String.length", "java/lang/String.charAt",
        "java/lang/Math.min", "java/lang/Math.max", "java/lang/Math.abs",
        "java/lang/Integer.bitCount", "java/lang/System.arraycopy",
        "java/lang/IllegalArgumentException.\"<init>\"", "java/util/NoSuchElementException.\"<init>\"");
    private static final Set<String> MADE = Set.of(
        "java/lang/IllegalArgumentException", "java/util/NoSuchElementException");
    private static final Set<String> MAY_CALL_THEMSELVES = Set.of(
        "CommaState$Law.readSum", "CommaState$Law.readProduct", "CommaState$Law.readUnit",
        "CommaState$Deeds.readStep", "CommaState$Deeds.readHeld", "CommaState$Deeds.enact");
    private static final int DEEPEST = 8;

    private static final Map<String, Set<String>> calls = new HashMap<>();

    public static void main(String[] args) throws Exception {
        File place = new File(CommaState.class.getProtectionDomain().getCodeSource().getLocation().toURI());
        int classes = 0;
        for (String name : place.list()) {
            if (name.matches("CommaState(\\$.*)?\\.class")) {
                classes++;
                readClass(name.substring(0, name.length() - 6), shown(new File(place, name)));
            }
        }
        Check.yes("classes are seen", classes > 1);
        Check.yes("calls are seen", calls.size() > 100);
        Set<String> deep = new TreeSet<>();
        for (String method : calls.keySet()) {
            boolean itself = reaches(method, method, new TreeSet<>());
            Check.due(method + " comes back to itself", itself ? 1 : 0, MAY_CALL_THEMSELVES.contains(method) ? 1 : 0);
            if (depth(method, new ArrayList<>()) > DEEPEST) {
                deep.add(method);
            }
        }
        Check.same("methods above more than eight calls", deep.toString(), "[]");
        Check.end();
    }

    private static String shown(File file) {
        StringWriter text = new StringWriter();
        PrintWriter to = new PrintWriter(text);
        ToolProvider.findFirst("javap").orElseThrow().run(to, to, "-c", "-p", file.getPath());
        to.flush();
        return text.toString();
    }

    private static void readClass(String name, String text) {
        Pattern head = Pattern.compile("^  \\S.*?([\\w$]+)\\(.*\\).*;$");
        Pattern call = Pattern.compile("// (?:Interface)?Method (\\S+?):");
        Pattern made = Pattern.compile("\\bnew +#\\d+ +// class (\\S+)");
        Set<String> here = new TreeSet<>();
        for (String line : text.split("\n")) {
            Matcher m = head.matcher(line);
            if (m.find()) {
                String method = m.group(1).startsWith("CommaState") ? "\"<init>\"" : m.group(1);
                here = calls.computeIfAbsent(name + "." + method, k -> new TreeSet<>());
            }
            m = call.matcher(line);
            if (m.find()) {
                String to = m.group(1).contains(".") ? m.group(1) : name + "." + m.group(1);
                here.add(to);
                Check.yes("call of " + to, to.startsWith("CommaState") || LIBRARY.contains(to));
            }
            m = made.matcher(line);
            if (m.find()) {
                Check.yes("new " + m.group(1), m.group(1).startsWith("CommaState") || MADE.contains(m.group(1)));
            }
        }
        Check.yes(name + " catches nothing", !text.contains("Exception table:"));
    }

    private static boolean reaches(String from, String to, Set<String> seen) {
        for (String next : calls.getOrDefault(from, Set.of())) {
            if (next.equals(to) || seen.add(next) && reaches(next, to, seen)) {
                return true;
            }
        }
        return false;
    }

    /** How many methods stand open at most from this one on, each counted once. */
    private static int depth(String method, List<String> open) {
        if (open.contains(method)) {
            return 0;
        }
        open.add(method);
        int deepest = 0;
        for (String next : calls.getOrDefault(method, Set.of())) {
            deepest = Math.max(deepest, depth(next, open));
        }
        open.remove(method);
        return deepest + 1;
    }
}
