import java.util.ArrayList;
import java.util.List;

/** Books for the tests to begin with, and a picture of all that a book tells. */
final class Books {
    static final int LEAST = Integer.MIN_VALUE;
    static final int MOST = Integer.MAX_VALUE;
    static final int FIVE = -5;
    static final int STEADY = 0;
    static final int WANING = 1;
    static final int GROWING = 2;
    static final int HEALING = 3;

    private Books() {
    }

    /** Scenes on these days, at place 0. */
    static ShotBook withDays(int... days) {
        ShotBook book = new ShotBook();
        for (int day : days) {
            book.scene(day, 0);
        }
        return book;
    }

    /** A scene a day that is given, a thing 0, and a take of each scene that shows it so and is chosen. */
    static ShotBook chosenShow(int law, int rate, int[] days, int... measures) {
        ShotBook book = withDays(days);
        book.thing(law, rate, 1);
        for (int s = 0; s < measures.length; s++) {
            book.take(s, 0);
            book.show(s, 0, measures[s]);
            book.choose(s, s);
        }
        return book;
    }

    /** Two scenes, two things and three takes: 0 and 2 of scene 0, 1 of scene 1; scene 0 has 2 chosen. */
    static ShotBook some() {
        ShotBook book = new ShotBook();
        book.scene(3, 4);
        book.scene(3, 5);
        book.thing(STEADY, 0, 2);
        book.thing(HEALING, 7, 9);
        book.take(0, 1);
        book.take(1, 2);
        book.take(0, 3);
        book.show(0, 0, 0);
        book.show(1, 0, 99);
        book.show(2, 1, 50);
        book.choose(0, 2);
        return book;
    }

    /** As many scenes, things and takes as may be; every take shows every thing, and every scene has one chosen. */
    static ShotBook full() {
        ShotBook book = new ShotBook();
        for (int s = 0; s < 6; s++) {
            book.scene(s / 2, 90 + s);
        }
        for (int t = 0; t < 6; t++) {
            book.thing(t % 4, t % 4 == HEALING ? t : 0, 1 + t);
        }
        for (int k = 0; k < 16; k++) {
            book.take(k % 6, k);
            for (int t = 0; t < 6; t++) {
                book.show(k, t, (k * 7 + t * 11) % 100);
            }
        }
        for (int s = 0; s < 6; s++) {
            book.choose(s, s);
        }
        return book;
    }

    /** Everything that the book tells; less than two hundred calls. */
    static List<Integer> picture(ShotBook book) {
        List<Integer> told = new ArrayList<>();
        for (int what = 0; what <= 4; what++) {
            told.add(book.many(what));
        }
        int scenes = told.get(0);
        int things = told.get(1);
        int takes = told.get(2);
        for (int what = 0; what <= 3; what++) {
            for (int s = 0; s < scenes; s++) {
                told.add(book.of(s, what));
            }
            for (int t = 0; t < things; t++) {
                told.add(book.thingOf(t, what));
            }
        }
        for (int k = 0; k < takes; k++) {
            told.add(book.told(k, 0));
            told.add(book.told(k, 1));
            for (int t = 0; t < things; t++) {
                told.add(book.told(k, 10 + t));
            }
        }
        return told;
    }
}
