import java.lang.reflect.Method;
import java.util.Arrays;
import java.util.Comparator;
import java.util.HashSet;
import java.util.Set;

/**
 * Each sentence of the document that names a boundary, by a test of its own: every method that bears Says.
 * Fails too if a test quotes what the document does not say, if words of the terms or promises have no test, and if
 * a promise has none.
 * With an argument only the tests whose names begin with it are run: java BoundsTest p17
 */
public final class BoundsTest {
    private static final Class<?>[] GROUPS = {BoundsOfTerms.class, BoundsOfTexts.class, BoundsOfSongs.class, BoundsOfParts.class,
        BoundsOfLessons.class, BoundsOfChoirs.class, BoundsOfBooks.class};

    private static final int PROMISES = 39;

    /* Tells how to read the document; nothing that a call could break. */
    private static final String NO_PROMISE = "Words in capitals are told where they come first.";

    public static void main(String[] args) throws Exception {
        String only = args.length > 0 ? args[0] : "";
        Document document = Document.isThere() ? new Document() : null;
        if (document == null) System.out.println("no ../shared/DOC.md here: the quotes are not looked up");
        Set<String> begun = new HashSet<>();
        int tests = 0;
        for (Class<?> group : GROUPS) {
            Method[] methods = group.getDeclaredMethods();
            Arrays.sort(methods, Comparator.comparing(Method::getName));
            for (Method method : methods) {
                Says[] says = method.getAnnotationsByType(Says.class);
                if (says.length == 0 || !method.getName().startsWith(only)) continue;
                if (document != null) lookUp(document, method.getName(), says);
                run(method, says);
                begun.add(method.getName().replaceAll("_.*", ""));
                tests++;
            }
        }
        Check.begin("");
        for (int promise = 1; only.isEmpty() && promise <= PROMISES; promise++) {
            Check.holds("promise " + promise + " has a test", begun.contains(String.format("p%02d", promise)));
        }
        if (document != null && only.isEmpty()) {
            document.quotes("Terms", NO_PROMISE);
            for (String words : document.unquoted()) Check.holds("a test quotes '" + words + "'", false);
        }
        System.out.println("BoundsTest: " + tests + " sentences or parts of them");
        Check.end("BoundsTest");
    }

    private static void lookUp(Document document, String name, Says[] says) {
        Check.begin(name + ": ");
        for (Says one : says) {
            int colon = one.value().indexOf(": ");
            boolean stands = colon > 0 && document.quotes(one.value().substring(0, colon), one.value().substring(colon + 2));
            Check.holds("the document says '" + one.value() + "'", stands);
        }
    }

    private static void run(Method method, Says[] says) throws Exception {
        Check.begin(method.getName() + " (" + says[0].value() + "): ");
        int before = Check.looked();
        method.setAccessible(true);
        method.invoke(null);
        Check.holds("it looks at something", Check.looked() > before);
    }
}
