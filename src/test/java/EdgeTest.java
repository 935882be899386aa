import java.io.IOException;
import java.io.UncheckedIOException;
import java.nio.charset.StandardCharsets;
import java.nio.file.Files;
import java.nio.file.Path;
import java.util.List;
import java.util.stream.Collectors;
import java.util.stream.Stream;

/**
 * The boundary cases that the document names: the files under src/test/edges quote its sentences,
 * and below each of them stand runs of calls with the answers that this sentence asks for. A
 * quote that does not stand in the document is told, and so is a sentence that none quotes.
 */
public final class EdgeTest {
    private static final Path RUNS = Path.of("src/test/edges");

    private final Document document = new Document();
    private String file;
    private int line;
    private String section = "";
    private String sentence = "";
    private boolean held = true;
    private boolean quoting;
    private Run run;
    private int runs;
    private int rows;
    private int wrong;

    public static void main(String[] args) {
        EdgeTest test = new EdgeTest();
        for (Path path : files()) test.readFile(path);
        test.tellUnquoted();
        System.out.println(test.runs + " runs, " + test.rows + " rows, " + test.wrong + " wrong");
        if (test.wrong != 0) System.exit(1);
    }

    private static List<Path> files() {
        try (Stream<Path> found = Files.list(RUNS)) {
            return found.filter(p -> p.toString().endsWith(".txt")).sorted().collect(Collectors.toList());
        } catch (IOException e) {
            throw new UncheckedIOException(e);
        }
    }

    private void readFile(Path path) {
        file = path.getFileName().toString();
        line = 0;
        try {
            for (String row : Files.readAllLines(path, StandardCharsets.US_ASCII)) {
                line++;
                read(row.strip());
            }
        } catch (IOException e) {
            throw new UncheckedIOException(e);
        }
        endSentence();
    }

    private void read(String row) {
        if (row.startsWith("> ")) {
            quote(row.substring(2).strip());
            return;
        }
        closeQuote();
        if (row.isEmpty() || row.startsWith("#")) return;
        if (row.startsWith("== ")) {
            endSentence();
            section = row.substring(3);
        } else if (row.startsWith("-- ")) {
            held = true;
            runs++;
            run = new Run();
        } else if (row.startsWith("~ ")) {
            if (!document.quote(section, row.substring(2))) tell("does not stand in the document");
        } else {
            answer(row);
        }
    }

    private void quote(String words) {
        if (!quoting) {
            endSentence();
            sentence = words;
        } else {
            sentence += " " + words;
        }
        quoting = true;
    }

    private void closeQuote() {
        if (!quoting) return;
        quoting = false;
        held = false;
        run = null;
        if (!document.quote(section, sentence)) tell("does not stand in the document");
    }

    private void endSentence() {
        if (!held) tell("no run holds this");
        held = true;
        run = null;
    }

    private void answer(String row) {
        if (run == null) {
            tell("a row without a run: " + row);
            return;
        }
        int times = 1;
        String calls = row;
        if (row.matches("\\d+ x .*")) {
            times = Integer.parseInt(row.substring(0, row.indexOf(' ')));
            calls = row.substring(row.indexOf(" x ") + 3);
        }
        for (int i = 0; i < times; i++) {
            for (String call : calls.split(";")) {
                rows++;
                String fault = run.fault(call.strip());
                if (fault != null) tell(call.strip() + fault);
            }
        }
    }

    private void tellUnquoted() {
        for (String words : document.unquoted()) {
            wrong++;
            System.out.println("no test quotes this: " + words);
        }
    }

    private void tell(String fault) {
        wrong++;
        System.out.println(file + ":" + line + ": " + fault);
        System.out.println("    " + section + ": " + sentence);
    }
}
