import java.nio.charset.StandardCharsets;
import java.nio.file.Files;
import java.nio.file.Path;
import java.util.Set;
import java.util.regex.Matcher;
import java.util.regex.Pattern;

/** LANGUAGE.md's rules as far as they can be seen in the text of the class. */
public final class LanguageTest {
    private static final String[] RULED_OUT = {
        "->", "::", "\\bcatch\\b", "\\bfinally\\b", "\\bsynchronized\\b", "\\bassert\\b", "\\bpackage\\b",
        "\\bprotected\\b", "\\bdouble\\b", "\\bfloat\\b", "Exact\\(", "Random", "nanoTime", "currentTimeMillis",
        "\\bThread\\b", "hashCode", "toString", "while \\(true\\)", "for \\(;;\\)", "for \\([^;]*;\\s*;"};

    private static final Set<String> LIBRARY = Set.of(
        "Math.min", "Math.max", "Math.abs", "Integer.bitCount", "System.arraycopy");

    public static void main(String[] args) throws Exception {
        Path file = Path.of("src/main/java/CommaState.java");
        byte[] raw = Files.readAllBytes(file);
        String text = new String(raw, StandardCharsets.ISO_8859_1);
        String code = text.replaceAll("(?s)/\\*.*?\\*/", "").replaceAll("//[^\n]*", "");
        for (String one : RULED_OUT) {
            Check.due("'" + one + "' stands in the class", Pattern.compile(one).matcher(code).find() ? 1 : 0, 0);
        }
        Matcher imports = Pattern.compile("(?m)^import ([^;]+);").matcher(code);
        while (imports.find()) {
            Check.due("import " + imports.group(1), imports.group(1).equals("java.util.NoSuchElementException") ? 1 : 0, 1);
        }
        libraryNames(code);
        int high = 0;
        for (byte b : raw) {
            high += b < 0 ? 1 : 0;
        }
        Check.due("signs above 127", high, 0);
        methodLengths(code);
        Check.end();
    }

    /** A constant of the library leaves no trace in the compiled class, so it is looked for in the text. */
    private static void libraryNames(String code) {
        Matcher used = Pattern.compile("\\b(Integer|Long|Math|System|Arrays|Character|Byte|Short|Boolean)\\.\\w+").matcher(code);
        int found = 0;
        while (used.find()) {
            found++;
            Check.yes(used.group() + " is in rule 4's list", LIBRARY.contains(used.group()));
        }
        Check.yes("names of the library are seen", found > 0);
    }

    private static void methodLengths(String code) {
        int since = 0;
        String[] lines = code.split("\n");
        for (int i = 0; i < lines.length; i++) {
            boolean head = lines[i].matches("\\s+[A-Za-z].*\\) (throws .*)?\\{") && lines[i].matches("( {4}| {8})\\S.*");
            if (head) {
                since = i;
            }
            if (lines[i].matches("( {4}| {8})\\}") && since > 0) {
                Check.due("method behind line " + since + " is at most 60 lines long", i - since <= 60 ? 1 : 0, 1);
                since = 0;
            }
        }
    }
}
