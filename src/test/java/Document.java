import java.io.IOException;
import java.nio.file.Files;
import java.nio.file.Path;
import java.util.ArrayList;
import java.util.LinkedHashMap;
import java.util.List;
import java.util.Map;
import java.util.regex.Matcher;
import java.util.regex.Pattern;

/** The document by sections: the promises by their numbers, the paragraphs of the description by their names. */
final class Document {
    private static final String[] PARAGRAPHS = {"Grid", "Fighters", "Draws", "Encounters", "Conditions", "Harm",
        "Acting", "Areas", "Powers", "Rests", "Journal", "Reasons", "Changes", "Snapshot", "In doubt", "Errors"};
    private static final Path PLACE = Path.of(System.getProperty("ledger.document", "../shared/DOC.md"));

    /** A clause ends at a point or a semicolon, ahead of the next argument, and ahead of what is returned. */
    private static final Pattern CLAUSE = Pattern.compile("\\S.*?(?:[.;](?= )|$| (?=- `|Returns ))");

    private static final Map<String, String> SECTIONS = new LinkedHashMap<>();

    static {
        if (Files.isReadable(PLACE)) {
            read();
        } else {
            System.out.println("no document at " + PLACE + ": quoted words are not compared with it");
        }
    }

    private Document() {
    }

    private static void read() {
        String text;
        try {
            text = Files.readString(PLACE).replaceAll("\\s+", " ");
        } catch (IOException e) {
            throw new IllegalStateException(e);
        }
        SECTIONS.put("What it is", between(text, "## What it is ", " ## "));
        readParagraphs(between(text, "## Description ", " The constructor and the methods follow"));
        Matcher promise = Pattern.compile("## Promise (\\d+): \\w[\\w ]* `[^`]*` (.*?)(?= ## |$)").matcher(text);
        while (promise.find()) {
            SECTIONS.put(promise.group(1), promise.group(2));
        }
    }

    private static String between(String text, String start, String end) {
        int from = text.indexOf(start) + start.length();
        return text.substring(from, text.indexOf(end, from));
    }

    private static void readParagraphs(String description) {
        int from = 0;
        for (int i = 0; i < PARAGRAPHS.length; i++) {
            int start = description.indexOf(PARAGRAPHS[i] + ". ", from) + PARAGRAPHS[i].length() + 2;
            boolean isLast = i == PARAGRAPHS.length - 1;
            int end = isLast ? description.length() : description.indexOf(" " + PARAGRAPHS[i + 1] + ". ", start);
            SECTIONS.put(PARAGRAPHS[i], description.substring(start, end));
            from = end;
        }
    }

    /** Whether these words stand in the section; all do if there is no document here. */
    static boolean says(String section, String words) {
        return SECTIONS.isEmpty() || SECTIONS.getOrDefault(section, "").contains(words);
    }

    /** The clauses of all sections that none of these quotes, each a section and its words, touches. */
    static List<String> untouched(List<String[]> quotes) {
        List<String> found = new ArrayList<>();
        for (Map.Entry<String, String> section : SECTIONS.entrySet()) {
            String text = section.getValue();
            Matcher clause = CLAUSE.matcher(text);
            while (clause.find()) {
                if (!isTouched(section.getKey(), text, clause.start(), clause.end(), quotes)) {
                    found.add(section.getKey() + ": " + clause.group());
                }
            }
        }
        return found;
    }

    private static boolean isTouched(String section, String text, int from, int to, List<String[]> quotes) {
        for (String[] quote : quotes) {
            int at = quote[0].equals(section) ? text.indexOf(quote[1]) : -1;
            while (at >= 0) {
                if (at < to && at + quote[1].length() > from) {
                    return true;
                }
                at = text.indexOf(quote[1], at + 1);
            }
        }
        return false;
    }
}
