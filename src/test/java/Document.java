import java.nio.file.Files;
import java.nio.file.Path;
import java.util.ArrayList;
import java.util.BitSet;
import java.util.LinkedHashMap;
import java.util.List;
import java.util.Map;

/** ../shared/DOC.md cut into the places that tests name, and which of its words some test quotes. */
final class Document {
    private static final Path FILE = Path.of("../shared/DOC.md");

    private final Map<String, String> places = new LinkedHashMap<>();
    private final Map<String, BitSet> quoted = new LinkedHashMap<>();

    Document() throws Exception {
        String place = "";
        for (String line : Files.readAllLines(FILE)) {
            if (line.startsWith("## ")) place = line.substring(3).replaceAll(":.*", "");
            if (line.startsWith("======== ")) place = "Part " + line.charAt(9);
            // What the interface says between its calls stands behind part 4, and promises nothing.
            if (line.startsWith("Ahead of the calls")) place = "The interface";
            if (line.startsWith("## ") || line.startsWith("```")) continue;
            String words = line.replaceFirst("^======== \\d ", "").replaceFirst("^`[^`]*`: ", "");
            places.merge(place, words, (a, b) -> a + " " + b);
        }
        places.replaceAll((name, words) -> flat(words));
    }

    static boolean isThere() {
        return Files.isReadable(FILE);
    }

    private static String flat(String words) {
        return words.trim().replaceAll("\\s+", " ");
    }

    /** Whether the words stand at that place; then they count as quoted, wherever they stand there. */
    boolean quotes(String place, String words) {
        String text = places.getOrDefault(place, ""), sought = flat(words);
        int at = text.indexOf(sought);
        if (at < 0 || sought.isEmpty()) return false;
        while (at >= 0) {
            quoted.computeIfAbsent(place, name -> new BitSet()).set(at, at + sought.length());
            at = text.indexOf(sought, at + 1);
        }
        return true;
    }

    /** The words of the terms, their parts and the promises that no test has quoted. */
    List<String> unquoted() {
        List<String> rows = new ArrayList<>();
        for (String place : places.keySet()) {
            if (!place.matches("Terms|Part \\d|Promise \\d+")) continue;
            String text = places.get(place);
            BitSet seen = quoted.getOrDefault(place, new BitSet());
            for (int at = seen.nextClearBit(0); at < text.length(); at = seen.nextClearBit(at)) {
                int end = seen.nextSetBit(at) < 0 ? text.length() : seen.nextSetBit(at);
                String words = text.substring(at, end).trim();
                if (words.matches(".*[A-Za-z0-9].*")) rows.add(place + ": " + words);
                at = end;
            }
        }
        return rows;
    }
}
