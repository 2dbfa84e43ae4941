import java.util.List;

/** The boundary cases of a book's life: promises 1, 26 and 27, and how many calls an object is good for. */
final class KeptBoundaries {
    private static final int CALLS = 512;
    private static final int CALLS_OF_SOME = 11;

    private final Sentences sentences;

    KeptBoundaries(Sentences sentences) {
        this.sentences = sentences;
    }

    void run() {
        sentences.in("What it is");
        sentences.noBoundary("A book of shots for a film taken out of order: what each take shows is told, things "
            + "are steady, wane, grow or heal by story days, takes that can't both be are told with the thing, the "
            + "best cut has the least of that, what a scene must show is a span, doubles of a thing are the fewest "
            + "that do, and the fewest scenes to be taken again are found.");
        sentences.test("An object is used for at most 512 calls after it has been made;", this::lastCalls);
        sentences.test("what later calls answer is free.", this::laterCalls);
        sentences.in("Promise 1");
        sentences.test("No SCENES, THINGS, TAKES;", this::newBook);
        sentences.test("nothing is kept.", this::newBookKeepsNothing);
        sentences.in("Promise 26");
        sentences.test("SCENES,", this::scenesKept);
        sentences.test("THINGS,", this::thingsKept);
        sentences.test("TAKES,", this::takesKept);
        sentences.test("CHOSEN ones are kept: 1.", this::chosenKept);
        sentences.in("Promise 27");
        sentences.test("They become what was kept latest", this::latestKept);
        sentences.test("(which stays): 1.", this::keptStays);
        sentences.test("NONE: nothing is kept.", this::nothingKept);
    }

    /** The call at a place of its own among those that an object is good for. */
    private static int answerOf(ShotBook book, int call) {
        switch (call) {
            case 0: return book.scene(9, 9);
            case 1: return book.shift(1, 9, 9);
            case 2: return book.thing(Books.WANING, 0, 3);
            case 3: return book.loud(1, 4);
            case 4: return book.take(1, 5);
            case 5: return book.show(1, 0, 6);
            case 6: return book.like(1, 2);
            case 7: return book.of(0, 3);
            case 8: return book.told(1, 10);
            case 9: return book.thingOf(1, 2);
            case 10: return book.ahead(1, 0);
            case 11: return book.clash(0, 1, 0);
            case 12: return book.noise(0, 1);
            case 13: return book.cost();
            case 14: return book.cut(1);
            case 15: return book.choose(0, 0);
            case 16: return book.adopt();
            case 17: return book.chosen();
            case 18: return book.span(1, 1, 1);
            case 19: return book.twin(1, 3, 0);
            case 20: return book.doubles(1, 3);
            case 21: return book.reshoot();
            case 22: return book.clashes(1);
            case 23: return book.many(4);
            case 24: return book.keep();
            default: return book.back();
        }
    }

    private void lastCalls() {
        int[] due = {2, 1, 2, 9, 3, 99, 2, 2, 99, 9, 2, 1, 2, 5, 1, 2, 2, 3, 50, 50, 1, 0, 0, 1, 1, ShotBook.NONE};
        for (int call = 0; call < due.length; call++) {
            sentences.due("an early call " + call, answerOf(Books.some(), call), due[call]);
            ShotBook book = Books.some();
            for (int i = CALLS_OF_SOME; i < CALLS - 1; i++) {
                // Among them calls that are refused: they are calls, too.
                sentences.due("a call between", i % 2 == 0 ? book.many(0) : book.scene(-1, 0), i % 2 == 0 ? 2 : -1);
            }
            sentences.due("the last call " + call, answerOf(book, call), due[call]);
        }
    }

    private void laterCalls() {
        ShotBook book = Books.some();
        int answered = 0;
        for (int i = 0; i < 20 * CALLS; i++) {
            answerOf(book, i % 26);
            answered++;
        }
        sentences.due("each comes to an end", answered, 20 * CALLS);
    }

    private void newBook() {
        ShotBook book = new ShotBook();
        for (int what = 0; what <= 4; what++) {
            sentences.due("what " + what, book.many(what), 0);
        }
        sentences.due("no scene 0", book.of(0, 0), ShotBook.NUMBER);
        sentences.due("no thing 0", book.thingOf(0, 0), ShotBook.NUMBER);
        sentences.due("no take 0", book.told(0, 0), ShotBook.NUMBER);
        sentences.due("cost", book.cost(), 0);
        sentences.due("chosen", book.chosen(), 0);
        sentences.due("adopt", book.adopt(), 0);
        sentences.due("reshoot", book.reshoot(), 0);
        Books.full();
        sentences.due("whatever another object has", book.many(0), 0);
        sentences.due("whatever another object has", new ShotBook().many(2), 0);
    }

    private void newBookKeepsNothing() {
        sentences.due("back", new ShotBook().back(), ShotBook.NONE);
        ShotBook other = Books.some();
        other.keep();
        sentences.due("whatever another object keeps", new ShotBook().back(), ShotBook.NONE);
    }

    private void scenesKept() {
        ShotBook book = Books.some();
        sentences.due("keep", book.keep(), 1);
        book.shift(0, 99, 98);
        book.shift(1, 97, 96);
        book.scene(1, 1);
        book.back();
        sentences.due("how many", book.many(0), 2);
        sentences.due("day", book.of(0, 0), 3);
        sentences.due("place", book.of(0, 1), 4);
        sentences.due("the other place", book.of(1, 1), 5);
        sentences.due("no scene 2", book.of(2, 0), ShotBook.NUMBER);
        sentences.due("clash, as the days are one again", book.clash(0, 1, 0), 1);
    }

    private void thingsKept() {
        ShotBook book = Books.some();
        sentences.due("keep", book.keep(), 1);
        book.loud(0, 9);
        book.loud(1, 1);
        book.thing(Books.GROWING, 0, 1);
        book.back();
        sentences.due("how many", book.many(1), 2);
        sentences.due("loud", book.thingOf(0, 2), 2);
        sentences.due("the other one's", book.thingOf(1, 2), 9);
        sentences.due("law", book.thingOf(1, 0), Books.HEALING);
        sentences.due("rate", book.thingOf(1, 1), 7);
        sentences.due("no thing 2", book.thingOf(2, 0), ShotBook.NUMBER);
        sentences.due("a thing 2 anew", book.thing(Books.HEALING, 8, 7), 2);
        sentences.due("its law", book.thingOf(2, 0), Books.HEALING);
        sentences.due("its rate", book.thingOf(2, 1), 8);
    }

    private void takesKept() {
        ShotBook book = Books.some();
        sentences.due("keep", book.keep(), 1);
        book.show(0, 0, 77);
        book.show(2, 1, -1);
        book.show(1, 1, 8);
        book.take(1, 20);
        book.back();
        sentences.due("how many", book.many(2), 3);
        sentences.due("measure", book.told(0, 10), 0);
        sentences.due("shown again", book.told(2, 11), 50);
        sentences.due("no longer shown", book.told(1, 11), ShotBook.NONE);
        sentences.due("of scene 1", book.of(1, 2), 1);
        sentences.due("no take 3", book.told(3, 0), ShotBook.NUMBER);
        sentences.due("a take 3 anew", book.take(0, 7), 3);
        sentences.due("its scene", book.told(3, 0), 0);
        sentences.due("its flaw", book.told(3, 1), 7);
    }

    private void chosenKept() {
        ShotBook book = Books.some();
        sentences.due("keep", book.keep(), 1);
        book.choose(0, -1);
        book.choose(1, 1);
        book.back();
        sentences.due("chosen", book.of(0, 3), 2);
        sentences.due("none", book.of(1, 3), ShotBook.NONE);
        book.adopt();
        book.scene(1, 1);
        book.take(2, 0);
        book.choose(2, 3);
        book.back();
        sentences.due("chosen, still", book.of(0, 3), 2);
        book.scene(1, 1);
        sentences.due("a scene anew has none", book.of(2, 3), ShotBook.NONE);
        sentences.due("one has one", book.many(3), 1);
    }

    private void latestKept() {
        ShotBook book = Books.some();
        book.keep();
        book.shift(0, 50, 0);
        sentences.due("keep again", book.keep(), 1);
        book.shift(0, 60, 0);
        sentences.due("back", book.back(), 1);
        sentences.due("the latest", book.of(0, 0), 50);
        ShotBook empty = new ShotBook();
        sentences.due("an empty book is kept", empty.keep(), 1);
        empty.scene(1, 1);
        empty.thing(0, 0, 1);
        empty.take(0, 0);
        sentences.due("back to it", empty.back(), 1);
        sentences.due("no scenes", empty.many(0), 0);
        sentences.due("no things", empty.many(1), 0);
        sentences.due("no takes", empty.many(2), 0);
        List<Integer> before = Books.picture(Books.full());
        ShotBook full = Books.full();
        full.keep();
        changeAll(full);
        full.back();
        sentences.holds("a full book is as it was", Books.picture(full).equals(before));
        foundAnew();
    }

    /** What is found in a book with more in it leaves nothing behind when the book goes back. */
    private void foundAnew() {
        ShotBook book = Books.chosenShow(Books.STEADY, 0, new int[] {1, 1}, 5, 5);
        book.keep();
        for (int s = 2; s < 6; s++) {
            book.scene(1, 0);
            book.show(book.take(s, 20), 0, s);
            book.choose(s, s);
        }
        sentences.due("three to be taken again", book.reshoot(), 4 + 8 + 16);
        sentences.due("cost", book.cost(), 80 + 12);
        sentences.due("an empty span", book.doubles(0, 3), ShotBook.NONE);
        book.back();
        sentences.due("none to be taken again", book.reshoot(), 0);
        sentences.due("no cost", book.cost(), 0);
        sentences.due("one double", book.doubles(0, 3), 1);
        sentences.due("no clash", book.clashes(0), 0);
    }

    private static void changeAll(ShotBook book) {
        for (int s = 0; s < 6; s++) {
            book.shift(s, 99 - s, s);
            book.choose(s, s == 0 ? -1 : 6 + s);
            book.loud(s, 9 - s);
            book.show(s, s, -1);
            book.show(15 - s, s, 1);
        }
    }

    private void keptStays() {
        ShotBook book = Books.full();
        book.keep();
        for (int i = 0; i < 3; i++) {
            changeAll(book);
            sentences.due("back", book.back(), 1);
            sentences.due("and again", book.back(), 1);
        }
        sentences.holds("it is as it was", Books.picture(book).equals(Books.picture(Books.full())));
    }

    private void nothingKept() {
        ShotBook book = Books.full();
        sentences.due("back", book.back(), ShotBook.NONE);
        sentences.due("back again", book.back(), ShotBook.NONE);
        sentences.holds("all stays", Books.picture(book).equals(Books.picture(Books.full())));
        sentences.due("keep", book.keep(), 1);
        sentences.due("back", book.back(), 1);
    }
}
