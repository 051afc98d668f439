import java.io.IOException;
import java.nio.file.Files;
import java.nio.file.Path;
import java.util.LinkedHashMap;
import java.util.Map;

/** The sections of the document that tests quote, each as one line of text. */
final class Document {
    private static final Path PLACE = Path.of("..", "shared", "DOC.md");
    // The face itself is FaceTest's; where the interface has its headings is told to readers of it.
    private static final String NOT_QUOTED = "`[^`\n]+`|======== \\d|Ahead of the calls .* the interface says: .*";

    private final Map<String, String> sections = new LinkedHashMap<>();

    Document() {
        String name = "";
        for (String line : lines()) {
            if (line.startsWith("#")) {
                name = nameOf(line);
            } else if (!line.startsWith("```")) {
                sections.merge(name, line, (ahead, next) -> ahead + " " + next);
            }
        }
        sections.keySet().removeIf(section -> !isQuoted(section));
        sections.replaceAll((section, text) -> text.replaceAll("\\s+", " "));
    }

    Map<String, String> sections() {
        return sections;
    }

    /** Where words begin in a section, -1 if they are not there once and no more. */
    int find(String section, String words) {
        String text = sections.getOrDefault(section, "");
        int at = text.indexOf(words);
        return at == text.lastIndexOf(words) ? at : -1;
    }

    private static String[] lines() {
        try {
            return Files.readString(PLACE).replaceAll(NOT_QUOTED, " ").split("\n");
        } catch (IOException e) {
            throw new IllegalStateException("no document at " + PLACE, e);
        }
    }

    private static String nameOf(String heading) {
        return heading.replaceAll("^#+ ", "").replaceAll(":.*", "").strip();
    }

    private static boolean isQuoted(String section) {
        return section.equals("What it is") || section.equals("Terms") || section.startsWith("Promise ");
    }
}
