/** The boundary cases that the document's Terms name of scenes, things, takes and clashes. */
final class TermsBoundaries {
    private static final int[] MEASURES = {0, 1, 2, 49, 50, 51, 97, 98, 99};
    private static final int[] DAYS = {0, 1, 2, 50, 98, 99};

    private final Sentences sentences;

    TermsBoundaries(Sentences sentences) {
        this.sentences = sentences;
    }

    void run() {
        sentences.in("Terms");
        sentences.test("SCENES are numbered from 0 as they come, 6 at most,", this::sixScenes);
        sentences.test("each with a DAY of the story (0 to 99) and a PLACE in it (0 to 99).", this::daysAndPlaces);
        sentences.test("A SCENE is AHEAD of another one if its DAY is less,", this::aheadByDay);
        sentences.test("or the same and its PLACE is less.", this::aheadByPlace);
        sentences.test("THINGS are numbered from 0 as they come, 6 at most;", this::sixThings);
        sentences.test("each has a LAW: 0 STEADY, 1 WANING, 2 GROWING, 3 HEALING under WANING,", this::laws);
        sentences.test("a RATE (1 to 9 of HEALING ones, else 0),", this::rates);
        sentences.test("and is LOUD (1 to 9).", this::louds);
        sentences.test("TAKES are numbered from 0 as they come, 16 at most,", this::sixteenTakes);
        sentences.test("4 at most of one SCENE,", this::fourOfOneScene);
        sentences.test("each of a SCENE with a FLAW (0 to 20);", this::flaws);
        sentences.test("it SHOWS some THINGS, each with a MEASURE (0 to 99).", this::measures);
        sentences.test("Two TAKES, of unlike SCENES, CLASH by a THING if both SHOW it, and:", this::bothShow);
        sentences.test("STEADY: their SCENES are of one DAY,", this::steadyOnOneDay);
        sentences.test("and the MEASURES unlike.", this::steadyUnlike);
        sentences.test("Else, if the SCENE of one (v its MEASURE) is AHEAD of that of the other one (w its MEASURE):",
            this::oneAhead);
        sentences.test("WANING: w is above v;", this::waning);
        sentences.test("GROWING: w is below v;", this::growing);
        sentences.test("HEALING: w isn't v less RATE times as many DAYS as there are from the first SCENE's to the "
            + "other one's", this::healing);
        sentences.test("(0, if that is below 0).", this::healedBelowNothing);
        sentences.test("TAKES of one SCENE never CLASH.", this::oneScene);
        sentences.test("NOISE of two TAKES: how LOUD the THINGS by which they CLASH are, together.", this::noise);
    }

    private void sixScenes() {
        ShotBook book = new ShotBook();
        for (int s = 0; s < 6; s++) {
            sentences.due("a refused one between", book.scene(-1, 0), ShotBook.NUMBER);
            sentences.due("scene", book.scene(50 - s, 0), s);
        }
        sentences.due("a seventh", book.scene(0, 0), ShotBook.FULL);
        sentences.due("still six", book.many(0), 6);
    }

    private void daysAndPlaces() {
        for (int v = 0; v <= 99; v++) {
            ShotBook book = new ShotBook();
            book.scene(v, 99 - v);
            sentences.due("day", book.of(0, 0), v);
            sentences.due("place", book.of(0, 1), 99 - v);
            book.shift(0, 99 - v, v);
            sentences.due("day shifted to", book.of(0, 0), 99 - v);
            sentences.due("place shifted to", book.of(0, 1), v);
        }
    }

    /** How two scenes stand to each other. */
    private static int order(int day, int place, int otherDay, int otherPlace) {
        ShotBook book = new ShotBook();
        book.scene(day, place);
        book.scene(otherDay, otherPlace);
        return book.ahead(0, 1);
    }

    private void aheadByDay() {
        for (int day : DAYS) {
            for (int other : DAYS) {
                if (day != other) {
                    sentences.due("places alike", order(day, 7, other, 7), day < other ? 1 : 2);
                    sentences.due("places against it", order(day, day < other ? 99 : 0, other, day < other ? 0 : 99),
                        day < other ? 1 : 2);
                }
            }
        }
    }

    private void aheadByPlace() {
        for (int place : DAYS) {
            for (int other : DAYS) {
                sentences.due("on day 0", order(0, place, 0, other), place < other ? 1 : place > other ? 2 : 0);
                sentences.due("on day 99", order(99, place, 99, other), place < other ? 1 : place > other ? 2 : 0);
            }
        }
    }

    private void sixThings() {
        ShotBook book = new ShotBook();
        for (int t = 0; t < 6; t++) {
            sentences.due("a refused one between", book.thing(0, 0, 0), ShotBook.NUMBER);
            sentences.due("thing", book.thing(0, 0, 9), t);
        }
        sentences.due("a seventh", book.thing(0, 0, 9), ShotBook.FULL);
        sentences.due("still six", book.many(1), 6);
    }

    private void laws() {
        for (int law = 0; law <= 3; law++) {
            ShotBook book = new ShotBook();
            book.thing(law, law == Books.HEALING ? 1 : 0, 1);
            sentences.due("law", book.thingOf(0, 0), law);
        }
        // What heals wanes too: where a healing thing doesn't clash, a waning one doesn't either.
        for (int v : MEASURES) {
            for (int w : MEASURES) {
                if (clash(Books.HEALING, 1, 1, v, 2, w) == 0) {
                    sentences.due("waning " + v + ", " + w, clash(Books.WANING, 0, 1, v, 2, w), 0);
                }
            }
        }
    }

    private void rates() {
        for (int rate = 0; rate <= 10; rate++) {
            for (int law = 0; law <= 3; law++) {
                boolean fits = law == Books.HEALING ? rate >= 1 && rate <= 9 : rate == 0;
                ShotBook book = new ShotBook();
                sentences.due("law " + law + ", rate " + rate, book.thing(law, rate, 1), fits ? 0 : ShotBook.NUMBER);
                sentences.due("rate", book.thingOf(0, 1), fits ? rate : ShotBook.NUMBER);
            }
        }
    }

    private void louds() {
        for (int loud = 1; loud <= 9; loud++) {
            ShotBook book = new ShotBook();
            book.thing(0, 0, loud);
            sentences.due("loud", book.thingOf(0, 2), loud);
        }
    }

    private void sixteenTakes() {
        ShotBook book = Books.withDays(1, 1, 1, 1, 1, 1);
        for (int k = 0; k < 16; k++) {
            sentences.due("a refused one between", book.take(0, 21), ShotBook.NUMBER);
            sentences.due("take", book.take(k % 6, 0), k);
        }
        for (int s = 0; s < 6; s++) {
            sentences.due("a seventeenth, of scene " + s, book.take(s, 0), ShotBook.FULL);
        }
        sentences.due("still sixteen", book.many(2), 16);
    }

    private void fourOfOneScene() {
        ShotBook book = Books.withDays(1, 1, 1, 1);
        for (int k = 0; k < 16; k++) {
            sentences.due("take", book.take(k / 4, 0), k);
            sentences.due("how many", book.of(k / 4, 2), k % 4 + 1);
            if (k % 4 == 3) {
                sentences.due("a fifth", book.take(k / 4, 0), ShotBook.FULL);
                sentences.due("still four", book.of(k / 4, 2), 4);
            }
        }
    }

    private void flaws() {
        for (int flaw = 0; flaw <= 20; flaw++) {
            ShotBook book = Books.withDays(1, 1);
            book.take(1, flaw);
            sentences.due("flaw", book.told(0, 1), flaw);
            sentences.due("scene", book.told(0, 0), 1);
        }
    }

    private void measures() {
        ShotBook book = Books.some();
        for (int v = 0; v <= 99; v++) {
            book.show(0, 1, v);
            sentences.due("measure", book.told(0, 11), v);
        }
        book = Books.full();
        sentences.due("all things shown", book.told(15, 2), 6);
        for (int t = 0; t < 6; t++) {
            book.show(15, t, -1);
            sentences.due("fewer shown", book.told(15, 2), 5 - t);
        }
    }

    /** Whether v on one day and w on another day clash; each scene is at place 5. */
    private static int clash(int law, int rate, int day, int v, int otherDay, int w) {
        return clashAt(law, rate, new int[] {day, 5, otherDay, 5}, v, w);
    }

    /** Likewise with day, place, other day and other place; -2 if it depends on the order of the takes or scenes. */
    private static int clashAt(int law, int rate, int[] when, int v, int w) {
        ShotBook book = new ShotBook();
        book.scene(when[0], when[1]);
        book.scene(when[2], when[3]);
        book.scene(when[0], when[1]);
        book.thing(law, rate, 1);
        for (int s = 0; s < 3; s++) {
            book.take(s, 0);
            book.show(s, 0, s == 1 ? w : v);
        }
        int found = book.clash(0, 1, 0);
        boolean same = book.clash(1, 0, 0) == found && book.clash(1, 2, 0) == found && book.clash(2, 1, 0) == found;
        return same ? found : -2;
    }

    private void bothShow() {
        for (int law = 0; law <= 3; law++) {
            int rate = law == Books.HEALING ? 1 : 0;
            int day = law == Books.STEADY ? 1 : 2;
            int[] when = {1, 0, day, 1};
            int v = law == Books.WANING ? 0 : 99;
            int w = 99 - v;
            sentences.due("both, law " + law, clashAt(law, rate, when, v, w), 1);
            sentences.due("the first one alone, law " + law, clashAt(law, rate, when, v, -1), 0);
            sentences.due("the other one alone, law " + law, clashAt(law, rate, when, -1, w), 0);
            sentences.due("neither, law " + law, clashAt(law, rate, when, -1, -1), 0);
        }
        // -1 for "doesn't show" isn't a measure below 0.
        sentences.due("0 and not shown", clashAt(Books.WANING, 0, new int[] {1, 0, 2, 0}, -1, 0), 0);
        sentences.due("not shown and 0", clashAt(Books.GROWING, 0, new int[] {1, 0, 2, 0}, 0, -1), 0);
    }

    private void steadyOnOneDay() {
        for (int day : DAYS) {
            for (int other : DAYS) {
                sentences.due("days " + day + ", " + other, clash(Books.STEADY, 0, day, 3, other, 4),
                    day == other ? 1 : 0);
            }
        }
        sentences.due("places far away", clashAt(Books.STEADY, 0, new int[] {1, 0, 1, 99}, 3, 4), 1);
        sentences.due("one place", clashAt(Books.STEADY, 0, new int[] {1, 9, 1, 9}, 3, 4), 1);
        sentences.due("one place of two days", clashAt(Books.STEADY, 0, new int[] {1, 9, 2, 9}, 3, 4), 0);
    }

    private void steadyUnlike() {
        for (int v : MEASURES) {
            for (int w : MEASURES) {
                sentences.due(v + ", " + w, clash(Books.STEADY, 0, 1, v, 1, w), v == w ? 0 : 1);
            }
        }
    }

    private void oneAhead() {
        for (int law = Books.WANING; law <= Books.HEALING; law++) {
            int rate = law == Books.HEALING ? 9 : 0;
            for (int v : MEASURES) {
                for (int w : MEASURES) {
                    sentences.due("neither is, law " + law, clash(law, rate, 4, v, 4, w), 0);
                }
            }
            int early = law == Books.WANING ? 3 : 4;
            sentences.due("by a place, law " + law, clashAt(law, rate, new int[] {4, 0, 4, 1}, early, 7 - early), 1);
            sentences.due("by a day, law " + law, clashAt(law, rate, new int[] {4, 9, 5, 0}, early, 7 - early), 1);
            sentences.due("the other one by a place, law " + law,
                clashAt(law, rate, new int[] {4, 1, 4, 0}, 7 - early, early), 1);
            sentences.due("the other one by a day, law " + law,
                clashAt(law, rate, new int[] {5, 0, 4, 9}, 7 - early, early), 1);
        }
    }

    private void waning() {
        for (int v : MEASURES) {
            for (int w : MEASURES) {
                sentences.due(v + ", " + w, clash(Books.WANING, 0, 1, v, 2, w), w > v ? 1 : 0);
                sentences.due("turned " + v + ", " + w, clash(Books.WANING, 0, 99, w, 0, v), w > v ? 1 : 0);
            }
        }
    }

    private void growing() {
        for (int v : MEASURES) {
            for (int w : MEASURES) {
                sentences.due(v + ", " + w, clash(Books.GROWING, 0, 1, v, 2, w), w < v ? 1 : 0);
                sentences.due("turned " + v + ", " + w, clash(Books.GROWING, 0, 99, w, 0, v), w < v ? 1 : 0);
            }
        }
    }

    private void healing() {
        for (int rate = 1; rate <= 9; rate++) {
            for (int days = 1; days * rate <= 99; days++) {
                int due = 99 - days * rate;
                sentences.due("99, " + due, clash(Books.HEALING, rate, 0, 99, days, due), 0);
                sentences.due("99, " + (due + 1), clash(Books.HEALING, rate, 0, 99, days, due + 1), 1);
                if (due > 0) {
                    sentences.due("99, " + (due - 1), clash(Books.HEALING, rate, 99 - days, 99, 99, due - 1), 1);
                }
            }
        }
        int[] oneDay = {9, 0, 9, 99};
        sentences.due("no day between, alike", clashAt(Books.HEALING, 9, oneDay, 50, 50), 0);
        sentences.due("no day between, less", clashAt(Books.HEALING, 9, oneDay, 50, 49), 1);
        sentences.due("no day between, a rate less", clashAt(Books.HEALING, 9, oneDay, 50, 41), 1);
        sentences.due("no day between, more", clashAt(Books.HEALING, 9, oneDay, 50, 51), 1);
        sentences.due("from night to morning", clashAt(Books.HEALING, 9, new int[] {9, 99, 10, 0}, 50, 41), 0);
    }

    private void healedBelowNothing() {
        for (int v : MEASURES) {
            for (int days = 11; days <= 99; days += 11) {
                sentences.due(v + " after " + days, clash(Books.HEALING, 9, 0, v, days, 0), 0);
                sentences.due("1 from " + v + " after " + days, clash(Books.HEALING, 9, 0, v, days, 1), 1);
            }
        }
        sentences.due("0 stays 0", clash(Books.HEALING, 1, 0, 0, 1, 0), 0);
        sentences.due("just 0", clash(Books.HEALING, 5, 0, 10, 2, 0), 0);
        sentences.due("one below 0", clash(Books.HEALING, 5, 0, 9, 2, 0), 0);
        sentences.due("one above 0", clash(Books.HEALING, 5, 0, 11, 2, 0), 1);
    }

    private void oneScene() {
        ShotBook book = Books.withDays(1);
        for (int law = 0; law <= 3; law++) {
            book.thing(law, law == Books.HEALING ? 1 : 0, 9);
        }
        for (int k = 0; k < 4; k++) {
            book.take(0, 0);
            for (int law = 0; law <= 3; law++) {
                book.show(k, law, k == 0 ? 99 : k);
            }
        }
        for (int k = 0; k < 16; k++) {
            for (int law = 0; law <= 3; law++) {
                sentences.due("law " + law, book.clash(k / 4, k % 4, law), 0);
            }
            sentences.due("noise", book.noise(k / 4, k % 4), 0);
        }
        sentences.due("pairs", book.many(4), 0);
    }

    private void noise() {
        ShotBook book = Books.withDays(1, 1);
        book.take(0, 0);
        book.take(1, 0);
        sentences.due("without things", book.noise(0, 1), 0);
        for (int t = 0; t < 6; t++) {
            book.thing(Books.STEADY, 0, 9);
            book.show(0, t, 0);
            sentences.due("shown by one alone", book.noise(0, 1), 9 * t);
            book.show(1, t, 99);
            sentences.due("things that clash: " + (t + 1), book.noise(0, 1), 9 * (t + 1));
        }
        book.loud(5, 1);
        sentences.due("five by 9, one by 1", book.noise(1, 0), 46);
        book.show(1, 0, 0);
        sentences.due("four by 9, one by 1", book.noise(1, 0), 37);
        sentences.due("with itself", book.noise(1, 1), 0);
    }
}
