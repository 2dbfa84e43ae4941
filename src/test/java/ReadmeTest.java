import java.io.IOException;
import java.lang.reflect.Method;
import java.lang.reflect.Modifier;
import java.nio.file.Files;
import java.nio.file.Path;
import java.util.Arrays;
import java.util.HashMap;
import java.util.Map;
import java.util.Set;
import java.util.TreeSet;
import java.util.regex.Matcher;
import java.util.regex.Pattern;

/** What README.md tells of the class is true: its example's answers, its rows of calls, its tests. */
public final class ReadmeTest {
    private static final Path README = Path.of("README.md");
    private static final Path DOCUMENT = Path.of("../shared/DOC.md");
    private static final Path TESTS = Path.of("src/test/java");
    private static final Pattern STEP =
        Pattern.compile("^(?:int (\\w+) = )?book\\.(\\w+)\\(([^)]*)\\);(?:\\s*// (-?\\d+|\\D).*)?$");

    private final Checks checks = new Checks();
    private final Map<String, Integer> known = new HashMap<>();

    public static void main(String[] args) throws IOException, ReflectiveOperationException {
        ReadmeTest test = new ReadmeTest();
        String text = Files.readString(README);
        test.example(text);
        test.callsAreTheFace(text);
        test.testsAreNamed(text);
        test.checks.end();
    }

    private void example(String text) throws ReflectiveOperationException {
        int start = text.indexOf("```java\n");
        int end = text.indexOf("```", start + 3);
        checks.holds("there is an example", start >= 0 && end > start);
        ShotBook book = new ShotBook();
        int answersTold = 0;
        for (String line : text.substring(start + 8, end).split("\n")) {
            if (line.equals("ShotBook book = new ShotBook();")) {
                continue;
            }
            Matcher step = STEP.matcher(line);
            checks.holds("a step of the example can be read: " + line, step.matches());
            int answer = answerOf(book, step.group(2), step.group(3));
            if (step.group(1) != null) {
                checks.holds("not refused: " + line, answer >= 0);
                known.put(step.group(1), answer);
            }
            if (step.group(4) != null && step.group(4).matches("-?\\d+")) {
                answersTold++;
                checks.due(line, answer, Integer.parseInt(step.group(4)));
            }
        }
        checks.holds("the example tells answers", answersTold > 0);
    }

    private int answerOf(ShotBook book, String name, String arguments) throws ReflectiveOperationException {
        String[] words = arguments.isEmpty() ? new String[0] : arguments.split(", ");
        Object[] values = new Object[words.length];
        for (int i = 0; i < words.length; i++) {
            values[i] = known.containsKey(words[i]) ? known.get(words[i]) : Integer.valueOf(words[i]);
        }
        Class<?>[] types = new Class<?>[words.length];
        Arrays.fill(types, int.class);
        return (Integer) ShotBook.class.getMethod(name, types).invoke(book, values);
    }

    /** Rows of a table that begin with a call, against the document's face. */
    private void callsAreTheFace(String text) throws IOException {
        Set<String> told = new TreeSet<>();
        Matcher row = Pattern.compile("(?m)^\\| `(\\w+\\([^)]*\\))` \\|").matcher(text);
        while (row.find()) {
            checks.holds("told once: " + row.group(1), told.add(row.group(1)));
        }
        Set<String> face = new TreeSet<>();
        Matcher call = Pattern.compile("(?m)^    public int (\\w+)\\(([^)]*)\\);").matcher(Files.readString(DOCUMENT));
        while (call.find()) {
            face.add(call.group(1) + "(" + call.group(2).replace("int ", "") + ")");
        }
        checks.holds("the calls are the face's: " + told + ", due are " + face, told.equals(face));
        int count = 0;
        for (Method m : ShotBook.class.getDeclaredMethods()) {
            count += Modifier.isPublic(m.getModifiers()) ? 1 : 0;
        }
        checks.due("how many calls README.md tells", told.size(), count);
    }

    private void testsAreNamed(String text) throws IOException {
        try (var files = Files.list(TESTS)) {
            for (Path file : files.toList()) {
                String name = file.getFileName().toString().replace(".java", "");
                checks.holds("README.md names " + name, !name.endsWith("Test") || text.contains("`" + name + "`"));
            }
        }
    }
}
