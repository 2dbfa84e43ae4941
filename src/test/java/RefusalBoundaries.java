import java.lang.reflect.Method;
import java.lang.reflect.Modifier;
import java.util.ArrayList;
import java.util.Arrays;
import java.util.List;
import java.util.Set;

/** What the document's Terms say of refused calls, and the constants that these answer. */
final class RefusalBoundaries {
    private static final int WAYS = 3;
    private static final int[] TRIED = {Books.LEAST, -2, -1, 0, 1, 5, 9, 16, 64, 100, Books.MOST};
    private static final Set<String> ASKING = Set.of("of", "told", "thingOf", "ahead", "clash", "noise", "cost", "cut",
        "chosen", "span", "twin", "doubles", "reshoot", "clashes", "many");

    private final Sentences sentences;

    RefusalBoundaries(Sentences sentences) {
        this.sentences = sentences;
    }

    void run() {
        sentences.in("Terms");
        sentences.test("A call that is refused (answers below 0, where not told otherwise) changes nothing.",
            this::refusedChangesNothing);
        sentences.test("Of several refusals that a call names the first one named is answered.", this::firstNamed);
        sentences.noBoundary("The constants:");
        sentences.test("`NUMBER = -1`: A number is none, or none that may be.", this::number);
        sentences.test("`FULL = -2`: There are as many as may be.", this::full);
        sentences.test("`OTHER = -3`: A TAKE of another SCENE.", this::other);
        sentences.test("`NONE = -4`: There is none.", this::none);
    }

    /** The books that calls are tried on: a new one, one with some, a full one; each keeps what it was before. */
    private static ShotBook begin(int which) {
        if (which == 0) {
            return new ShotBook();
        }
        ShotBook book = which == 1 ? Books.some() : Books.full();
        book.keep();
        book.shift(1, 77, 66);
        book.choose(0, -1);
        return book;
    }

    private void refusedChangesNothing() {
        for (int which = 0; which < WAYS; which++) {
            List<Integer> untouched = Books.picture(begin(which));
            ShotBook gone = begin(which);
            gone.back();
            List<Integer> untouchedKept = Books.picture(gone);
            for (Method call : ShotBook.class.getDeclaredMethods()) {
                if (Modifier.isPublic(call.getModifiers())) {
                    tryAll(which, call, untouched, untouchedKept);
                }
            }
        }
    }

    private void tryAll(int which, Method call, List<Integer> untouched, List<Integer> untouchedKept) {
        for (Object[] arguments : allArguments(call.getParameterCount())) {
            ShotBook book = begin(which);
            int answer = answerOf(book, call, arguments);
            if (isRefusal(call.getName(), answer) || ASKING.contains(call.getName())) {
                String row = "book " + which + ", " + call.getName() + Arrays.toString(arguments);
                sentences.holds(row + " changes nothing", Books.picture(book).equals(untouched));
                ShotBook again = begin(which);
                answerOf(again, call, arguments);
                again.back();
                sentences.holds(row + " changes nothing kept", Books.picture(again).equals(untouchedKept));
            }
        }
    }

    private static boolean isRefusal(String name, int answer) {
        // These two answer -1 when nothing was shown, or chosen, and are not refused then.
        boolean mayBeNothing = name.equals("show") || name.equals("choose");
        return mayBeNothing ? answer < -1 : answer < 0;
    }

    private static List<Object[]> allArguments(int count) {
        List<Object[]> found = new ArrayList<>();
        found.add(new Object[0]);
        for (int i = 0; i < count; i++) {
            List<Object[]> longer = new ArrayList<>();
            for (Object[] row : found) {
                for (int v : TRIED) {
                    Object[] more = Arrays.copyOf(row, row.length + 1);
                    more[row.length] = v;
                    longer.add(more);
                }
            }
            found = longer;
        }
        return found;
    }

    private static int answerOf(ShotBook book, Method call, Object[] arguments) {
        try {
            return (Integer) call.invoke(book, arguments);
        } catch (ReflectiveOperationException e) {
            throw new IllegalStateException(call.getName() + Arrays.toString(arguments), e);
        }
    }

    private void firstNamed() {
        ShotBook book = Books.full();
        sentences.due("scene, full: day", book.scene(100, 0), ShotBook.NUMBER);
        sentences.due("scene, full: place", book.scene(0, -1), ShotBook.NUMBER);
        sentences.due("scene, full", book.scene(0, 0), ShotBook.FULL);
        sentences.due("thing, full: law", book.thing(4, 0, 1), ShotBook.NUMBER);
        sentences.due("thing, full: rate", book.thing(3, 0, 1), ShotBook.NUMBER);
        sentences.due("thing, full: loud", book.thing(0, 0, 10), ShotBook.NUMBER);
        sentences.due("thing, full", book.thing(0, 0, 1), ShotBook.FULL);
        sentences.due("take, full: scene", book.take(6, 0), ShotBook.NUMBER);
        sentences.due("take, full: flaw", book.take(0, 21), ShotBook.NUMBER);
        sentences.due("take, full", book.take(0, 0), ShotBook.FULL);
        sentences.due("choose: no scene, take of another one", book.choose(6, 0), Books.FIVE);
        sentences.due("choose: no take, of no scene", book.choose(0, 16), Books.FIVE);
        sentences.due("choose: take of another scene", book.choose(0, 1), ShotBook.OTHER);
        sentences.due("of: no scene, another what", book.of(6, 4), ShotBook.NUMBER);
        sentences.due("told: no take, another what", book.told(16, 3), ShotBook.NUMBER);
        ShotBook bare = Books.chosenShow(Books.STEADY, 0, new int[] {1, 1, 1}, 5, 6);
        sentences.due("span: another what, and empty", bare.span(2, 0, 3), ShotBook.NUMBER);
        sentences.due("span: no thing, and empty", bare.span(2, 1, 0), ShotBook.NUMBER);
        sentences.due("twin: no set, no i", bare.twin(0, 8, -1), ShotBook.NUMBER);
        sentences.due("twin: no set, an empty span", bare.twin(0, 12, 0), ShotBook.NUMBER);
        sentences.due("twin: no thing, no i", bare.twin(1, 1, 9), ShotBook.NUMBER);
        sentences.due("twin: no thing, no set", bare.twin(1, 8, 0), ShotBook.NUMBER);
        sentences.due("doubles: no set, an empty span", bare.doubles(0, 12), ShotBook.NUMBER);
        sentences.due("doubles: no thing, an empty span", bare.doubles(1, 4), ShotBook.NUMBER);
        sentences.due("cut: no scene, so no takes", bare.cut(3), ShotBook.NUMBER);
        sentences.due("cut: no takes", bare.cut(2), ShotBook.NONE);
        fourOfOneScene();
    }

    private void fourOfOneScene() {
        ShotBook book = Books.withDays(1);
        for (int k = 0; k < 4; k++) {
            book.take(0, 0);
        }
        sentences.due("take, four of this scene: flaw", book.take(0, -1), ShotBook.NUMBER);
        sentences.due("take, four of this scene", book.take(0, 0), ShotBook.FULL);
    }

    private void number() {
        sentences.due("NUMBER", ShotBook.NUMBER, -1);
        sentences.due("none", new ShotBook().of(0, 0), -1);
        sentences.due("none that may be", new ShotBook().scene(100, 0), -1);
    }

    private void full() {
        sentences.due("FULL", ShotBook.FULL, -2);
        sentences.due("scenes", Books.full().scene(0, 0), -2);
        sentences.due("things", Books.full().thing(0, 0, 1), -2);
        sentences.due("takes", Books.full().take(5, 0), -2);
    }

    private void other() {
        sentences.due("OTHER", ShotBook.OTHER, -3);
        sentences.due("choose", Books.full().choose(5, 0), -3);
    }

    private void none() {
        sentences.due("NONE", ShotBook.NONE, -4);
        sentences.due("back", Books.full().back(), -4);
        sentences.due("cut", Books.withDays(1).cut(0), -4);
        sentences.due("of", Books.withDays(1).of(0, 3), -4);
    }
}
