import java.io.IOException;
import java.nio.file.Files;
import java.nio.file.Path;
import java.util.ArrayList;
import java.util.HashMap;
import java.util.HashSet;
import java.util.List;
import java.util.Map;
import java.util.Set;
import java.util.regex.Matcher;
import java.util.regex.Pattern;

/** Those of the rules of LANGUAGE.md that the source of Factloom shows, by its number. */
public final class SourceTest {
    private static final List<String> NO_WORDS = List.of("package", "import", "try", "catch", "finally", "assert",
            "synchronized", "volatile", "transient", "native", "equals", "hashCode", "\\w+Exact", "double", "float",
            "Object", "System", "Thread", "Random");
    private static final List<String> NO_SIGNS = List.of("->", "::", "@", "static {", "\" +", "+ \"");
    private static final Set<String> LIBRARY = Set.of("Math.min", "Math.max", "Integer.bitCount");
    private static final Set<String> THROWN = Set.of("IllegalStateException", "IllegalArgumentException",
            "IndexOutOfBoundsException");
    private static final Set<String> LIBRARY_CALLS = Set.of("min", "max", "bitCount", "append", "toString");
    private static final Pattern METHOD = Pattern.compile(
            " +(?:public |private |static |final )*[\\w\\[\\]]+ (\\w+)\\(([^()]*)\\)(?: throws [\\w, ]+)? \\{");

    public static void main(String[] args) throws IOException {
        Path file = Path.of("src/main/java/Factloom.java");
        String text = Files.readString(file);
        for (int k = 0; k < text.length(); k++) {
            if (text.charAt(k) >= 127) {
                Check.due("rule 4: the sign at " + k, "1 to 126", (int) text.charAt(k));
            }
        }
        String source = withoutComments(text);
        onlyWhatIsListed(source);
        exceptions(source);
        String plain = source.replaceAll("\"[^\"]*\"", "\"\"");
        Map<String, Set<String>> calls = callsOf(plain);
        Check.due("methods were found", true, calls.size() > 80);
        for (String method : calls.keySet()) {
            int depth = depthOf(method, calls, new ArrayList<>());
            Check.due("rule 11: " + method + " goes " + depth + " deep", true, depth <= 8);
        }
        Check.end();
    }

    private static String withoutComments(String text) {
        return text.replaceAll("(?s)/\\*.*?\\*/", "").replaceAll("//[^\n]*", "");
    }

    private static void onlyWhatIsListed(String source) {
        String plain = source.replaceAll("\"[^\"]*\"", "\"\"");
        for (String word : NO_WORDS) {
            Check.due("is not written: " + word, false, Pattern.compile("\\b" + word + "\\b").matcher(plain).find());
        }
        for (String sign : NO_SIGNS) {
            Check.due("is not written: " + sign, false, plain.contains(sign));
        }
        Matcher called = Pattern.compile("\\b[A-Z]\\w*\\.[a-z]\\w*\\b").matcher(plain);
        while (called.find()) {
            Check.due("rule 4: " + called.group() + " is listed", true, LIBRARY.contains(called.group()));
        }
        Matcher row = Pattern.compile("(\\w+)(\\[\\])+ ").matcher(plain);
        while (row.find()) {
            Check.due("rule 3: an array of numbers", "int", row.group(1));
        }
        Matcher made = Pattern.compile("(\\w*) *= new int\\[").matcher(plain);
        while (made.find()) {
            String line = lineAt(plain, made.start());
            Check.due("the room: made once an object: " + line, true, line.startsWith("        private final int[] "));
        }
    }

    private static String lineAt(String text, int place) {
        return text.substring(text.lastIndexOf('\n', place) + 1, text.indexOf('\n', place));
    }

    private static void exceptions(String source) {
        Matcher thrown = Pattern.compile("\\bthrow\\b([^;]*);").matcher(source);
        Pattern form = Pattern.compile(" new (\\w+)\\(\"[^\"]+\"\\)");
        while (thrown.find()) {
            Matcher made = form.matcher(thrown.group(1));
            boolean isRight = made.matches() && THROWN.contains(made.group(1));
            Check.due("rule 6: throw" + thrown.group(1), true, isRight);
        }
    }

    /** By name alone, so that methods with the same name count as one: a chain found so is never too short. */
    private static Map<String, Set<String>> callsOf(String plain) {
        Map<String, Set<String>> calls = new HashMap<>();
        Set<String> publicNames = new HashSet<>();
        String[] lines = plain.split("\n");
        for (int k = 0; k < lines.length; k++) {
            Matcher head = METHOD.matcher(lines[k]);
            if (head.matches()) {
                int end = endOf(lines, k);
                String name = head.group(1);
                Check.due("rule 11: " + name + " is short", true, end - k <= 60);
                Check.due("rule 11: " + name + " has few parameters", true, head.group(2).split(",").length <= 7);
                boolean isPublic = lines[k].startsWith("    public ");
                Check.due("rule 1: " + name + " is no public name", false, !isPublic && publicNames.contains(name));
                if (isPublic) {
                    publicNames.add(name);
                }
                Set<String> called = calls.computeIfAbsent(name, any -> new HashSet<>());
                Matcher call = Pattern.compile("(?<!new )\\b([a-z]\\w*)\\(").matcher(body(lines, k + 1, end));
                while (call.find()) {
                    called.add(call.group(1));
                }
            }
        }
        return calls;
    }

    private static String body(String[] lines, int from, int end) {
        StringBuilder text = new StringBuilder();
        for (int k = from; k < end; k++) {
            text.append(lines[k]).append('\n');
        }
        return text.toString();
    }

    /** A method ends at the first closing bracket that stands as far in as its head. */
    private static int endOf(String[] lines, int head) {
        String indent = lines[head].replaceAll("\\S.*", "");
        int end = head + 1;
        while (end < lines.length && !lines[end].equals(indent + "}")) {
            end++;
        }
        return end;
    }

    private static int depthOf(String method, Map<String, Set<String>> calls, List<String> open) {
        Check.due("rule 8: " + open + " do not call " + method + " again", false, open.contains(method));
        if (!calls.containsKey(method)) {
            boolean isKnown = LIBRARY_CALLS.contains(method) || isKeyword(method);
            Check.due("rule 4: " + method + " is listed", true, isKnown);
            return isKeyword(method) ? 0 : 1;
        }
        if (open.contains(method)) {
            return 99;
        }
        open.add(method);
        int deepest = 0;
        for (String called : calls.get(method)) {
            deepest = Math.max(deepest, depthOf(called, calls, open));
        }
        open.remove(method);
        return deepest + 1;
    }

    private static boolean isKeyword(String word) {
        return Set.of("for", "if", "while", "switch", "return").contains(word);
    }
}
