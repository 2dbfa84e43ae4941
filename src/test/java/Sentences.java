import java.io.IOException;
import java.nio.file.Files;
import java.nio.file.Path;
import java.util.ArrayList;
import java.util.List;
import java.util.function.IntUnaryOperator;

/**
 * Tests that each stand for some words of the document. It looks whether the document has these words, and at the
 * end whether there are words of it for which no test stands.
 */
final class Sentences {
    private static final Path DOCUMENT = Path.of("../shared/DOC.md");
    // Far outside of every limit, and such as a byte or a short would take for a small number.
    private static final int[] FAR = {Books.LEAST, Books.LEAST + 1, Books.LEAST + 10, -65536, -256, 256, 257, 65536,
        65537, 1 << 30, Books.MOST - 1, Books.MOST};

    private static final class Section {
        String title;
        String text;
        boolean[] tested;
    }

    private final Checks checks = new Checks();
    private final List<Section> sections = new ArrayList<>();
    private Section section;
    private String words = "";

    Sentences() throws IOException {
        String document = Files.readString(DOCUMENT);
        for (String part : document.split("(?m)^## ")) {
            String title = part.substring(0, part.indexOf('\n'));
            if (title.equals("What it is") || title.equals("Terms") || title.startsWith("Promise ")) {
                addSection(title, part.substring(part.indexOf('\n')));
            }
        }
    }

    private void addSection(String title, String text) {
        Section added = new Section();
        added.title = title.replaceAll(":.*", "");
        // Signatures are FaceTest's; numbers of paragraphs and the interface's headings promise nothing.
        added.text = text.replaceAll("```(text)?", "").replaceAll("(?m)^`[^`]*\\(.*?\\)`:", "")
            .replaceAll("(?m)^\\d\\. ", "").replaceAll("(?m)^Ahead of the calls .*$", "").replaceAll("\\s+", " ");
        added.tested = new boolean[added.text.length()];
        sections.add(added);
    }

    void in(String title) {
        section = null;
        for (Section s : sections) {
            if (s.title.equals(title)) {
                section = s;
            }
        }
        checks.holds("the document has a part: " + title, section != null);
    }

    /** Words that name nothing to be tested. */
    void noBoundary(String said) {
        words = said;
        markTested();
    }

    void test(String said, Runnable test) {
        words = said;
        markTested();
        int before = checks.looked();
        test.run();
        checks.holds("a test looks at something: " + said, checks.looked() > before);
    }

    private void markTested() {
        int at = section.text.indexOf(words);
        while (at >= 0 && section.tested[at]) {
            at = section.text.indexOf(words, at + 1);
        }
        checks.holds(section.title + " says: " + words, at >= 0);
        for (int i = at; at >= 0 && i < at + words.length(); i++) {
            section.tested[i] = true;
        }
    }

    void due(String what, long got, long want) {
        checks.due(section.title + " (" + words + "): " + what, got, want);
    }

    void holds(String what, boolean fact) {
        checks.holds(section.title + " (" + words + "): " + what, fact);
    }

    /** The call is refused but for numbers from low to high, for which it answers what is granted. */
    void onlyFrom(int low, int high, int refusal, IntUnaryOperator call, IntUnaryOperator granted) {
        for (int v = low - 20; v <= high + 20; v++) {
            due("with " + v, call.applyAsInt(v), low <= v && v <= high ? granted.applyAsInt(v) : refusal);
        }
        for (int v : FAR) {
            due("with " + v, call.applyAsInt(v), refusal);
        }
    }

    /** The call is refused but for numbers from 0 to count less one, for which it isn't. */
    void onlyBelow(int count, int refusal, IntUnaryOperator call) {
        onlyFrom(0, count - 1, 0, v -> call.applyAsInt(v) == refusal ? 0 : 1, v -> 1);
    }

    void end() {
        for (Section s : sections) {
            for (String rest : untestedOf(s)) {
                checks.holds(s.title + " has a test of: " + rest, false);
            }
        }
        checks.end();
    }

    private static List<String> untestedOf(Section s) {
        List<String> found = new ArrayList<>();
        StringBuilder rest = new StringBuilder();
        for (int i = 0; i <= s.tested.length; i++) {
            if (i < s.tested.length && !s.tested[i]) {
                rest.append(s.text.charAt(i));
                continue;
            }
            if (rest.toString().matches(".*[A-Za-z0-9].*")) {
                found.add(rest.toString().trim());
            }
            rest.setLength(0);
        }
        return found;
    }
}
