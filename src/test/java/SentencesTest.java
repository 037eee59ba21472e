import java.io.IOException;
import java.nio.file.Files;
import java.nio.file.Path;
import java.util.LinkedHashMap;
import java.util.Map;
import java.util.regex.Matcher;
import java.util.regex.Pattern;

/**
 * Each sentence of the Terms and of the promises by itself, at its edges. At the end the quoted sentences are held
 * against the document: what is quoted must stand there, and no sentence may be without its test.
 */
public final class SentencesTest extends Asking {
    private static final Path DOCUMENT = Path.of("../shared/DOC.md");

    /** Sections of the document as plain text, without headings, fences, code, and the marks ahead of parts. */
    private static Map<String, String> sections() throws IOException {
        Map<String, String> sections = new LinkedHashMap<>();
        String name = "";
        for (String row : Files.readAllLines(DOCUMENT)) {
            if (row.startsWith("#")) {
                Matcher promise = Pattern.compile("## (Promise \\d+):.*").matcher(row);
                name = promise.matches() ? promise.group(1) : row.replaceAll("^#+ ", "");
            } else if (!row.startsWith("```") && !row.startsWith("Ahead of the calls")) {
                String text = row.replaceAll("^`[^`]*`:", "").replaceAll("^The constants: `[^`]*`:", "").replaceAll("^======== \\d", "");
                sections.merge(name, text, (a, b) -> a + " " + b);
            }
        }
        sections.replaceAll((n, text) -> text.replaceAll("\\s+", " "));
        return sections;
    }

    private static void holdAgainstDocument() throws IOException {
        if (!Files.exists(DOCUMENT)) {
            System.out.println("there is no " + DOCUMENT + " to hold the sentences against");
            return;
        }
        Map<String, String> sections = sections();
        endSentence();
        Map<String, boolean[]> covered = new LinkedHashMap<>();
        sections.forEach((name, text) -> covered.put(name, new boolean[text.length()]));
        for (Sentence s : QUOTED) {
            String text = sections.getOrDefault(s.place(), "");
            due("quoted from " + s.place() + ", 1 or 0: \"" + s.text() + "\"", text.contains(s.text()) ? 1 : 0, 1);
            for (int at = text.indexOf(s.text()); at >= 0; at = text.indexOf(s.text(), at + 1)) {
                for (int k = 0; k < s.text().length(); k++) covered.get(s.place())[at + k] = true;
            }
        }
        sections.forEach((name, text) -> {
            if (name.equals("Terms") || name.startsWith("Promise")) due("no test quotes in " + name, bare(text, covered.get(name)), "");
        });
    }

    private static String bare(String text, boolean[] covered) {
        StringBuilder left = new StringBuilder();
        for (int k = 0; k < text.length(); k++) left.append(covered[k] ? '_' : text.charAt(k));
        return left.toString().replaceAll("_+", " ").replaceAll("KINDS:", "").replaceAll("[ .;:,]+", " ").trim();
    }

    public static void main(String[] args) throws IOException {
        TermsSentences.all();
        RefusalSentences.all();
        PromiseSentences.all();
        holdAgainstDocument();
        end();
    }
}
