import java.lang.reflect.Method;
import java.nio.file.Files;
import java.nio.file.Path;
import java.util.Set;
import java.util.TreeSet;
import java.util.regex.Matcher;
import java.util.regex.Pattern;

/** Makes the calls of README.md in their order: its answers are right, and it leaves no call of the face out. */
public final class ReadmeTest {
    private static final Pattern CALL = Pattern.compile("x\\.(\\w+)\\(([^)]*)\\); +// (-?\\d+|[A-Z]+)\\b.*");
    private static final Pattern FEED = Pattern.compile("feed\\(x, \"([^\"]*)\"\\);");
    private static final String NEW = "SungSteps x = new SungSteps();", OWN_METHOD = "static void feed(";

    private static final Set<String> named = new TreeSet<>();
    private static SungSteps x = null;
    private static int calls = 0;

    public static void main(String[] args) throws Exception {
        String page = Files.readString(Path.of("README.md"));
        for (String block : blocks(page)) {
            if (block.startsWith(OWN_METHOD)) continue;
            for (String row : block.split("\n")) runRow(row);
        }
        for (Method method : SungSteps.class.getDeclaredMethods()) {
            if (isOfTheFace(method)) Check.holds("README.md calls " + method.getName(), named.contains(method.getName()));
        }
        refusals(page);
        Check.holds("no more than 512 calls of one object: " + calls, calls <= 512);
        Check.end("ReadmeTest");
    }

    private static String[] blocks(String page) {
        Matcher block = Pattern.compile("(?s)```java\n(.*?)```").matcher(page);
        return block.results().map(found -> found.group(1)).toArray(String[]::new);
    }

    private static boolean isOfTheFace(Method method) {
        return java.lang.reflect.Modifier.isPublic(method.getModifiers()) && !method.isSynthetic();
    }

    private static void runRow(String row) throws Exception {
        Matcher call = CALL.matcher(row), feed = FEED.matcher(row);
        if (row.equals(NEW)) {
            x = new SungSteps();
            calls = 0;
        } else if (feed.matches()) {
            feedByOnes(feed.group(1));
        } else if (call.matches()) {
            named.add(call.group(1));
            calls++;
            Check.due("README.md: " + row, answer(call.group(1), call.group(2)), number(call.group(3)));
        } else {
            Check.holds("a row of README.md that is a call with its answer: " + row, false);
        }
    }

    /** As the method that README.md tells its readers to write. */
    private static void feedByOnes(String text) {
        for (int k = 0; k < text.length(); k++) x.feed(1, text.charAt(k));
        calls += text.length();
    }

    private static long answer(String name, String arguments) throws Exception {
        String[] given = arguments.isEmpty() ? new String[0] : arguments.split(", *");
        for (Method method : SungSteps.class.getDeclaredMethods()) {
            if (!isOfTheFace(method) || !method.getName().equals(name) || method.getParameterCount() != given.length) continue;
            Object[] values = new Object[given.length];
            for (int k = 0; k < given.length; k++) values[k] = value(given[k], method.getParameterTypes()[k]);
            return ((Number) method.invoke(x, values)).longValue();
        }
        throw new IllegalStateException("README.md calls " + name + " with " + given.length + ", which is not of the face");
    }

    private static Object value(String word, Class<?> type) throws Exception {
        if (type == boolean.class) return Boolean.valueOf(word);
        if (type == long.class) return Long.decode(word.replace("L", ""));
        return (int) number(word);
    }

    private static long number(String word) throws Exception {
        return word.matches("[A-Z]+") ? SungSteps.class.getField(word).getInt(null) : Long.parseLong(word);
    }

    private static void refusals(String page) throws Exception {
        for (String name : new String[] {"UNKNOWN", "OUTSIDE", "NOT", "FULL"}) {
            Check.holds("README.md tells " + name, page.contains("`" + name + "` | " + number(name) + " |"));
        }
    }
}
