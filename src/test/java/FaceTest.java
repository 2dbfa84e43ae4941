import java.io.IOException;
import java.lang.reflect.Constructor;
import java.lang.reflect.Field;
import java.lang.reflect.Member;
import java.lang.reflect.Method;
import java.lang.reflect.Modifier;
import java.nio.file.Files;
import java.nio.file.Path;
import java.util.ArrayList;
import java.util.List;
import java.util.Set;
import java.util.TreeSet;
import java.util.regex.Matcher;
import java.util.regex.Pattern;

/** The face is the document's and no more, and the file keeps to the rules that can be read off it. */
public final class FaceTest {
    private static final Path PROGRAM = Path.of("src/main/java/ShotBook.java");
    private static final Path DOCUMENT = Path.of("../shared/DOC.md");

    private static final String[] FORBIDDEN = {"\\bthrow\\b", "\\btry\\b", "\\bcatch\\b", "\\bsynchronized\\b",
        "\\bassert\\b", "->", "::", "\\bpackage\\b", "Exact\\b", "\\bstatic\\s*\\{", "\\bprotected\\b", "\\bRandom\\b",
        "\\bThread\\b", "\\bcurrentTimeMillis\\b", "\\bnanoTime\\b", "\\bMAX_VALUE\\b", "\\bMIN_VALUE\\b"};

    public static void main(String[] args) throws IOException {
        Checks checks = new Checks();
        checks.holds("the public members are the document's", visibleMembers().equals(documentMembers()));
        checks.holds("ShotBook is public and final",
            (ShotBook.class.getModifiers() & (Modifier.PUBLIC | Modifier.FINAL)) == (Modifier.PUBLIC | Modifier.FINAL));
        checkConstants(checks);
        checkNested(checks);
        checkText(checks);
        checks.end();
    }

    private static Set<String> visibleMembers() {
        Set<String> found = new TreeSet<>();
        for (Field f : ShotBook.class.getDeclaredFields()) {
            if (isVisible(f)) {
                found.add(Modifier.toString(f.getModifiers()) + " " + f.getType() + " " + f.getName());
            }
        }
        for (Constructor<?> c : ShotBook.class.getDeclaredConstructors()) {
            if (isVisible(c)) {
                found.add(Modifier.toString(c.getModifiers()) + " " + c.getName() + " " + c.getParameterCount());
            }
        }
        for (Method m : ShotBook.class.getDeclaredMethods()) {
            if (isVisible(m)) {
                found.add(Modifier.toString(m.getModifiers()) + " " + m.getReturnType() + " " + m.getName() + " "
                    + m.getParameterCount());
            }
        }
        return found;
    }

    private static boolean isVisible(Member member) {
        return !Modifier.isPrivate(member.getModifiers()) && !member.isSynthetic();
    }

    private static Set<String> documentMembers() throws IOException {
        String text = Files.readString(DOCUMENT);
        String face = text.substring(text.indexOf("```java"), text.indexOf("```\n", text.indexOf("```java") + 3));
        Set<String> found = new TreeSet<>();
        Matcher row = Pattern.compile("(?m)^    (public [^;(=]*?) *(?:=[^;]*|\\(([^)]*)\\));").matcher(face);
        while (row.find()) {
            String parameters = row.group(2);
            int count = parameters == null || parameters.isEmpty() ? 0 : parameters.split(",").length;
            found.add(row.group(1) + (parameters == null ? "" : " " + count));
        }
        return found;
    }

    private static void checkConstants(Checks checks) {
        checks.due("NUMBER", ShotBook.NUMBER, -1);
        checks.due("FULL", ShotBook.FULL, -2);
        checks.due("OTHER", ShotBook.OTHER, -3);
        checks.due("NONE", ShotBook.NONE, -4);
    }

    private static void checkNested(Checks checks) {
        List<String> publicNames = new ArrayList<>();
        for (Method m : ShotBook.class.getDeclaredMethods()) {
            if (Modifier.isPublic(m.getModifiers())) {
                publicNames.add(m.getName());
            }
        }
        for (Method m : ShotBook.class.getDeclaredMethods()) {
            checks.holds(m.getName() + " is public, or isn't a public call's name",
                Modifier.isPublic(m.getModifiers()) || !publicNames.contains(m.getName()));
        }
        checkStaticFields(checks, ShotBook.class);
        for (Class<?> inside : ShotBook.class.getDeclaredClasses()) {
            checks.holds(inside.getName() + " is static", Modifier.isStatic(inside.getModifiers()));
            checks.holds(inside.getName() + " isn't public", !Modifier.isPublic(inside.getModifiers()));
            checks.holds(inside.getName() + " has at most twenty fields", inside.getDeclaredFields().length <= 20);
            checkStaticFields(checks, inside);
            for (Method m : inside.getDeclaredMethods()) {
                checks.holds(m.getName() + " isn't a public call's name", !publicNames.contains(m.getName()));
                checks.holds(m.getName() + " has at most seven parameters", m.getParameterCount() <= 7);
            }
        }
        checks.holds("at most twelve classes", ShotBook.class.getDeclaredClasses().length < 12);
    }

    private static void checkStaticFields(Checks checks, Class<?> type) {
        for (Field f : type.getDeclaredFields()) {
            checks.holds(f.getName() + " is of an object, or final",
                !Modifier.isStatic(f.getModifiers()) || Modifier.isFinal(f.getModifiers()));
        }
    }

    private static void checkLengths(Checks checks, String code) {
        // A method ends at the first closing brace that stands as far in as its first line.
        Matcher method = Pattern.compile("(?ms)^( +)(?:public|private) [^;={]*\\) \\{$.*?^\\1\\}$").matcher(code);
        int found = 0;
        while (method.find()) {
            found++;
            long lines = method.group().lines().count();
            checks.holds("at most sixty lines: " + method.group().lines().findFirst().orElse(""), lines <= 60);
        }
        checks.holds("the methods are found", found >= ShotBook.class.getDeclaredMethods().length);
    }

    private static void checkText(Checks checks) throws IOException {
        String code = Files.readString(PROGRAM).replaceAll("//[^\n]*", "").replaceAll("(?s)/\\*.*?\\*/", "");
        for (String word : FORBIDDEN) {
            checks.holds("the code has no " + word, !Pattern.compile(word).matcher(code).find());
        }
        checkLengths(checks, code);
        Matcher imported = Pattern.compile("import ([^;]*);").matcher(code);
        while (imported.find()) {
            checks.holds("import " + imported.group(1),
                Set.of("java.util.Arrays", "java.util.ArrayList", "java.util.List").contains(imported.group(1)));
        }
    }
}
