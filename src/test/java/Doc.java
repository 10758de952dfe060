import java.io.IOException;
import java.nio.file.Files;
import java.nio.file.Path;
import java.util.ArrayList;
import java.util.LinkedHashMap;
import java.util.List;
import java.util.Map;
import java.util.Set;
import java.util.TreeSet;

/** The sentences of the document, and which of them the tests have named. */
final class Doc {
    private static final Path FILE = Path.of("..", "shared", "DOC.md");

    /** What only gives a thing its name, or what another sentence of the same promise says with its edges. */
    private static final Set<String> PLAIN = Set.of(
            "The constructor and the methods follow, a promise each: the signature, then what it does.",
            "- `character`: the character", "- `row`: the row", "- `column`: the column",
            "- `performance`: the performance", "- `performances`: the set of performances",
            "- `customer`: the customer", "- `hold`: the number of the hold", "- `order`: the number of the order",
            "- `from`: the performance of the ticket", "- `to`: the performance of the new ticket",
            "- `performance`: the performance of the ticket", "- `on`: whether it is blocked from now on",
            "Returns the number.", "Returns the property.", "Returns the count.", "Returns the mean.",
            "Returns the share.", "Returns the account in cents.", "Returns a number about a place.",
            "Returns a property of the best block for a request.", "Returns a number of a hold.",
            "Returns a number of a ticket.", "Returns a number about a performance.", "Returns a count.",
            "Returns the state of a place in a performance.", "Returns who has a place in a performance.",
            "Returns the number of blocks.", "Appends a character to the input buffer.", "Exchanges a ticket.",
            "Refunds a ticket.", "Sets the focus row.", "Sets the price of a category.");

    private static final Map<String, List<String>> SECTIONS = read();
    private static final Set<String> NAMED = new TreeSet<>();

    private Doc() {
    }

    private static Map<String, List<String>> read() {
        Map<String, List<String>> sections = new LinkedHashMap<>();
        String section = "";
        StringBuilder paragraph = new StringBuilder();
        for (String line : lines()) {
            if (line.isBlank() || line.startsWith("#") || line.startsWith("- ")) {
                split(paragraph, sections.computeIfAbsent(section, s -> new ArrayList<>()));
            }
            if (line.startsWith("## ")) {
                section = line.substring(3).split(":")[0];
            } else if (!line.isBlank() && !line.startsWith("#")) {
                paragraph.append(line.strip()).append(' ');
            }
        }
        split(paragraph, sections.computeIfAbsent(section, s -> new ArrayList<>()));
        return sections;
    }

    /** Without the document the tests of the edges still run, but what they quote is not compared with it. */
    static boolean isThere() {
        return Files.isReadable(FILE);
    }

    private static List<String> lines() {
        try {
            return isThere() ? Files.readAllLines(FILE) : List.of();
        } catch (IOException e) {
            throw new IllegalStateException("the document cannot be read at " + FILE, e);
        }
    }

    private static void split(StringBuilder paragraph, List<String> sentences) {
        for (String sentence : paragraph.toString().strip().split("(?<=[.;])\\s+(?=[A-Z])")) {
            if (!sentence.isEmpty()) sentences.add(sentence);
        }
        paragraph.setLength(0);
    }

    /** Notes that a test names a sentence, by the words of it or a part of them; tells whether they are there once. */
    static boolean name(String section, String words) {
        if (!isThere()) return true;
        List<String> found = new ArrayList<>();
        for (String sentence : SECTIONS.getOrDefault(section, List.of())) {
            if (sentence.contains(words)) found.add(sentence);
        }
        for (String sentence : found) {
            NAMED.add(section + ": " + sentence);
        }
        return found.size() == 1;
    }

    private static boolean isPlain(String sentence) {
        boolean signature = sentence.startsWith("`");
        boolean heading = sentence.startsWith("----") || sentence.matches("[A-Z][a-z]+\\.");
        return signature || heading || PLAIN.contains(sentence);
    }

    /** The sentences of the description and of the promises that no test has named. */
    static List<String> unnamed() {
        List<String> missing = new ArrayList<>();
        for (Map.Entry<String, List<String>> entry : SECTIONS.entrySet()) {
            boolean promised = entry.getKey().startsWith("Promise") || entry.getKey().equals("Description");
            for (String sentence : entry.getValue()) {
                String name = entry.getKey() + ": " + sentence;
                if (promised && !isPlain(sentence) && !NAMED.contains(name)) missing.add(name);
            }
        }
        return missing;
    }
}
