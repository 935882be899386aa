import java.io.IOException;
import java.io.UncheckedIOException;
import java.nio.charset.StandardCharsets;
import java.nio.file.Files;
import java.nio.file.Path;
import java.util.ArrayList;
import java.util.Arrays;
import java.util.LinkedHashMap;
import java.util.List;
import java.util.Map;

/**
 * The sentences of ../shared/DOC.md by their headings, and which of them have been quoted. Where
 * the document itself is not there, any words will do.
 */
final class Document {
    private static final Path DOCUMENT = Path.of("../shared/DOC.md");

    private static final class Section {
        String words = "";
        boolean[] quoted;
    }

    private final Map<String, Section> sections = new LinkedHashMap<>();

    Document() {
        if (!Files.exists(DOCUMENT)) {
            System.out.println(DOCUMENT + " is not there: the quotes are not held against it");
            return;
        }
        try {
            read(Files.readAllLines(DOCUMENT, StandardCharsets.UTF_8));
        } catch (IOException e) {
            throw new UncheckedIOException(e);
        }
        for (Section s : sections.values()) s.quoted = new boolean[s.words.length()];
    }

    /** Headings are those of promises, and rows of capital letters under Terms. */
    private void read(List<String> rows) {
        Section at = new Section();
        boolean face = false;
        for (String row : rows) {
            if (row.startsWith("```")) face = !face;
            if (face || row.startsWith("```")) continue;
            if (row.startsWith("## ")) {
                at = begin(row.substring(3).replaceFirst("(Promise \\d+):.*", "$1"));
            } else if (row.matches("[A-Z ]+")) {
                at = begin(row);
            } else {
                String words = row.replaceFirst("^- (`\\w+`: )", "$1").replaceFirst("^`\\w+ ?\\w*\\(.*?`: ", "");
                at.words = (at.words + " " + words).strip().replaceAll(" +", " ");
            }
        }
    }

    private Section begin(String heading) {
        Section s = new Section();
        sections.put(heading, s);
        return s;
    }

    /** Marks words of a section as quoted; false if they don't stand there. */
    boolean quote(String section, String words) {
        if (sections.isEmpty()) return true;
        Section s = sections.get(section);
        int at = s == null ? -1 : s.words.indexOf(words);
        if (at < 0) return false;
        Arrays.fill(s.quoted, at, at + words.length(), true);
        return true;
    }

    /** The words, heading by heading, that no test has quoted. */
    List<String> unquoted() {
        List<String> found = new ArrayList<>();
        for (Map.Entry<String, Section> e : sections.entrySet()) {
            StringBuilder left = new StringBuilder();
            Section s = e.getValue();
            for (int i = 0; i < s.words.length(); i++) left.append(s.quoted[i] ? '\n' : s.words.charAt(i));
            for (String words : left.toString().split("\n+")) {
                if (!words.isBlank()) found.add(e.getKey() + ": " + words.strip());
            }
        }
        return found;
    }
}
