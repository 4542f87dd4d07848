import java.io.IOException;
import java.lang.reflect.InvocationTargetException;
import java.lang.reflect.Method;
import java.lang.reflect.Modifier;
import java.nio.file.Files;
import java.nio.file.Path;
import java.util.List;
import java.util.Objects;
import java.util.regex.Matcher;
import java.util.regex.Pattern;
import java.util.stream.Stream;

/** README.md: each call that it shows is answered as it says, and it names each method and each test. */
public final class ReadmeTest {
    private static final Pattern MADE = Pattern.compile("Factloom store = new Factloom\\(\\);");
    private static final Pattern CALL = Pattern.compile("store\\.(\\w+)\\((.*?)\\); *// (.*)");
    private static final Pattern TEXT = Pattern.compile("\"([^\"]*)\".*");
    private static final Pattern THROWN = Pattern.compile("throws (\\w+).*");
    private static final Pattern NUMBER = Pattern.compile("([^:]*)(:.*)?");

    public static void main(String[] args) throws IOException, ReflectiveOperationException {
        List<String> lines = Files.readAllLines(Path.of("README.md"));
        callsAreAnsweredSo(lines);
        String page = String.join("\n", lines);
        eachMethodIsThere(page);
        eachTestIsThere(page);
        Check.end();
    }

    private static void callsAreAnsweredSo(List<String> lines) throws ReflectiveOperationException {
        Factloom store = null;
        boolean shown = false;
        int calls = 0;
        for (String line : lines) {
            if (line.startsWith("```")) {
                shown = line.equals("```java");
            } else if (shown && MADE.matcher(line).matches()) {
                store = new Factloom();
            } else if (shown) {
                Matcher call = CALL.matcher(line);
                boolean isCall = call.matches() && store != null;
                Check.due("shows a call with an answer: " + line, true, isCall);
                if (isCall) {
                    Check.due(line, dueOf(call.group(3)), outcome(store, call.group(1), call.group(2)));
                    calls++;
                }
            }
        }
        Check.due("some calls are shown", true, calls > 50);
    }

    private static String dueOf(String said) {
        for (Pattern form : List.of(TEXT, THROWN)) {
            Matcher matcher = form.matcher(said);
            if (matcher.matches()) {
                return form == TEXT ? matcher.group(1) : "throws." + matcher.group(1);
            }
        }
        Matcher number = NUMBER.matcher(said);
        return number.matches() ? number.group(1) : said;
    }

    private static String outcome(Factloom store, String name, String given) throws ReflectiveOperationException {
        String[] texts = given.isEmpty() ? new String[0] : given.split(", ");
        Method method = methodOf(name, texts.length);
        Object[] values = new Object[texts.length];
        for (int k = 0; k < texts.length; k++) {
            boolean isTruth = method.getParameterTypes()[k] == boolean.class;
            values[k] = isTruth ? (Object) Boolean.valueOf(texts[k]) : Integer.valueOf(texts[k]);
        }
        try {
            return String.valueOf(method.invoke(store, values));
        } catch (InvocationTargetException e) {
            return "throws." + e.getCause().getClass().getSimpleName();
        }
    }

    private static Method methodOf(String name, int parameters) {
        Method found = null;
        for (Method method : Factloom.class.getMethods()) {
            if (method.getName().equals(name) && method.getParameterCount() == parameters) {
                found = method;
            }
        }
        return Objects.requireNonNull(found, name);
    }

    private static void eachMethodIsThere(String page) {
        for (Method method : Factloom.class.getDeclaredMethods()) {
            if (Modifier.isPublic(method.getModifiers())) {
                Check.due("has a row: " + method, true, page.contains("| `" + method.getName() + "("));
                String row = rowOf(page, method.getName());
                for (Class<?> exception : method.getExceptionTypes()) {
                    String name = exception.getSimpleName();
                    Check.due(method + " is said to throw it", true, row.contains("`" + name + "`"));
                }
                Check.due(method + " throws nothing more", method.getExceptionTypes().length,
                        row.split("Exception`: ").length - 1);
            }
        }
    }

    private static String rowOf(String page, String name) {
        return page.lines().filter(line -> line.startsWith("| `" + name + "(")).findFirst().orElse("");
    }

    private static void eachTestIsThere(String page) throws IOException {
        try (Stream<Path> files = Files.list(Path.of("src/test/java"))) {
            files.map(file -> file.getFileName().toString()).filter(name -> name.endsWith("Test.java"))
                    .forEach(name -> Check.due("has a row: " + name, true,
                            page.contains("| " + name.replace(".java", "") + " |")));
        }
    }
}
