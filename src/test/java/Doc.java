import java.io.IOException;
import java.nio.file.Files;
import java.nio.file.Path;
import java.util.ArrayList;
import java.util.List;
import java.util.regex.Matcher;
import java.util.regex.Pattern;

/** The document's sentences: a test names the one it is of, and in the end none may be left without a test. */
final class Doc {
    /** What stands in the sections without being a sentence: marks, the interface's headings, the calls' faces. */
    private static final String[] NO_SENTENCES = {
        "======== \\d", "```text", "```", "Ahead of the calls (`\\w+`, )*`\\w+` the interface says: ---- [a-z ]*\\.",
        "`(int |long )?\\w+\\([^`]*\\)`:"};
    private static final List<Doc> SECTIONS = sections();

    private final String heading;
    private final String text;
    private final boolean[] isTested;

    private Doc(String heading, String text) {
        this.heading = heading;
        this.text = text;
        this.isTested = new boolean[text.length()];
        for (String mark : NO_SENTENCES) {
            Matcher m = Pattern.compile(mark).matcher(text);
            while (m.find()) {
                mark(m.start(), m.end());
            }
        }
    }

    private static List<Doc> sections() {
        List<Doc> sections = new ArrayList<>();
        try {
            for (String part : Files.readString(Path.of("../shared/DOC.md")).split("(?m)^## ")) {
                int end = part.indexOf('\n');
                String heading = part.substring(0, end).trim();
                if (heading.equals("Terms") || heading.startsWith("Promise ")) {
                    sections.add(new Doc(heading, part.substring(end).replaceAll("\\s+", " ")));
                }
            }
        } catch (IOException unread) {
            throw new IllegalStateException(unread);
        }
        return sections;
    }

    private void mark(int from, int to) {
        for (int i = from; i < to; i++) {
            isTested[i] = true;
        }
    }

    static void term(String sentence) {
        says("Terms", sentence);
    }

    static void promise(int number, String sentence) {
        says("Promise " + number + ":", sentence);
    }

    private static void says(String heading, String sentence) {
        for (Doc section : SECTIONS) {
            int at = section.text.indexOf(sentence);
            if (section.heading.startsWith(heading) && at >= 0) {
                section.mark(at, at + sentence.length());
                return;
            }
        }
        Due.holds(heading + " does not say: " + sentence, false);
    }

    /** Every sentence of the terms and the promises has to have had its test. */
    static void end() {
        Due.is("sections of the document", SECTIONS.size(), 40);
        for (Doc section : SECTIONS) {
            StringBuilder left = new StringBuilder();
            for (int i = 0; i < section.text.length(); i++) {
                left.append(section.isTested[i] ? ' ' : section.text.charAt(i));
            }
            String untested = left.toString().replaceAll("\\s+", " ").trim();
            Due.holds(section.heading + " has no test of: " + untested, untested.isEmpty());
        }
    }
}
