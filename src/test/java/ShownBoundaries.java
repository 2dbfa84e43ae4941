/** The boundary cases of what must be shown: what the Terms say of it, and promises 20 to 25. */
final class ShownBoundaries {
    private final Sentences sentences;

    ShownBoundaries(Sentences sentences) {
        this.sentences = sentences;
    }

    void run() {
        terms();
        spans();
        doubles();
        reshootsAndCounts();
    }

    private void terms() {
        sentences.in("Terms");
        sentences.test("SPAN of a THING in a SCENE: all MEASURES with which a TAKE of this SCENE, if it SHOWED the "
            + "THING so, would CLASH by it with none of the CHOSEN TAKES of other SCENES",
            this::spanIsWhatDoesNotClash);
        sentences.test("(MEASURES one behind the other, or none).", this::spanHasNoGap);
        sentences.test("DOUBLES of a THING for some SCENES: a rising row of MEASURES, as few as can be, so that each "
            + "of these SCENES has one of them in its SPAN;", this::fewestDoubles);
        sentences.test("of several rows it is the one that has, at the first place at which they are unlike, the "
            + "greater one.", this::greatestDoubles);
        sentences.test("There are none if the SPAN of one of these SCENES is empty.", this::noDoubles);
        sentences.test("RESHOOTS: the fewest SCENES without whose CHOSEN TAKES no two CHOSEN ones CLASH;",
            this::fewestReshoots);
        sentences.test("of several sets the least as bits (SCENE s is 2 to the power of s).", this::leastReshoots);
    }

    private void spanIsWhatDoesNotClash() {
        int[] days = {3, 3, 4, 7, 7};
        int[][] shown = {{50, 50, 41, 14, -1}, {0, 1, -1, 99, 98}, {99, -1, 0, 0, 0}, {40, 30, 31, -1, 4},
            {-1, -1, -1, -1, -1}};
        for (int law = 0; law <= 3; law++) {
            for (int[] measures : shown) {
                for (int scene = 0; scene < 6; scene++) {
                    dueAsTried(law, days, measures, scene);
                }
            }
        }
    }

    /** Every measure is tried in a take of the scene that isn't chosen. */
    private void dueAsTried(int law, int[] days, int[] measures, int scene) {
        ShotBook book = Books.chosenShow(law, law == Books.HEALING ? 9 : 0, days, measures);
        book.scene(5, 0);
        int trial = book.take(scene, 0);
        int count = 0;
        int least = ShotBook.NONE;
        int greatest = ShotBook.NONE;
        for (int m = 0; m <= 99; m++) {
            book.show(trial, 0, m);
            if (!clashesWithChosen(measures.length, book, scene, trial)) {
                least = count == 0 ? m : least;
                greatest = m;
                count++;
            }
            // A fresh book, as an object is used for 512 calls at most.
            if (m % 50 == 49) {
                book = Books.chosenShow(law, law == Books.HEALING ? 9 : 0, days, measures);
                book.scene(5, 0);
                book.take(scene, 0);
            }
        }
        String where = "law " + law + ", scene " + scene;
        sentences.due(where + ", least", book.span(scene, 0, 0), least);
        sentences.due(where + ", greatest", book.span(scene, 0, 1), greatest);
        sentences.due(where + ", how many", book.span(scene, 0, 2), count);
    }

    private static boolean clashesWithChosen(int chosen, ShotBook book, int scene, int trial) {
        for (int s = 0; s < chosen; s++) {
            if (s != scene && book.clash(trial, s, 0) == 1) {
                return true;
            }
        }
        return false;
    }

    private void spanHasNoGap() {
        // What heals to 0 may come from any measure up to a greatest one; what heals to 1 from one alone.
        ShotBook book = Books.chosenShow(Books.HEALING, 9, new int[] {0, 11}, -1, 0);
        dueSpan(book, 0, 0, 99);
        book.shift(1, 10, 0);
        dueSpan(book, 0, 0, 90);
        book.show(1, 0, 1);
        dueSpan(book, 0, 91, 91);
        book.show(1, 0, 9);
        dueSpan(book, 0, 99, 99);
        book.show(1, 0, 10);
        dueSpan(book, 0, ShotBook.NONE, ShotBook.NONE);
        book = Books.chosenShow(Books.WANING, 0, new int[] {0, 5, 9}, 40, -1, 41);
        dueSpan(book, 1, ShotBook.NONE, ShotBook.NONE);
        book.show(2, 0, 40);
        dueSpan(book, 1, 40, 40);
        book.show(2, 0, 39);
        dueSpan(book, 1, 39, 40);
    }

    private void dueSpan(ShotBook book, int scene, int least, int greatest) {
        sentences.due("least of scene " + scene, book.span(scene, 0, 0), least);
        sentences.due("greatest of scene " + scene, book.span(scene, 0, 1), greatest);
        sentences.due("how many of scene " + scene, book.span(scene, 0, 2), least < 0 ? 0 : greatest - least + 1);
    }

    private void dueRow(ShotBook book, int scenes, int... row) {
        sentences.due("how many for " + scenes, book.doubles(0, scenes), row.length);
        for (int i = 0; i < row.length; i++) {
            sentences.due("measure " + i + " for " + scenes, book.twin(0, scenes, i), row[i]);
        }
        sentences.due("one more for " + scenes, book.twin(0, scenes, row.length), ShotBook.NONE);
    }

    /** Waning, chosen as 90, 50 and 10; spans: 50 to 99, 50 to 90, 10 to 90, 10 to 50, 0 to 50, 0 to 10. */
    private static ShotBook stairs() {
        return Books.chosenShow(Books.WANING, 0, new int[] {1, 2, 3, 4, 5, 6}, 90, -1, 50, -1, 10);
    }

    /** Steady, chosen in scenes 0 to 2; 3 to 5 are of the same days, so each of these has a span of one measure. */
    private static ShotBook threeDays(int first, int second, int third) {
        return Books.chosenShow(Books.STEADY, 0, new int[] {1, 2, 3, 1, 2, 3}, first, second, third);
    }

    private void fewestDoubles() {
        dueRow(stairs(), 63, 10, 90);
        dueRow(stairs(), 14, 50);
        dueRow(threeDays(7, 8, 9), 56, 7, 8, 9);
        dueRow(threeDays(9, 8, 7), 56, 7, 8, 9);
        dueRow(threeDays(99, 0, 50), 56, 0, 50, 99);
        dueRow(threeDays(5, 5, 5), 56, 5);
        dueRow(threeDays(5, 6, 5), 56, 5, 6);
        dueRow(threeDays(0, 0, 99), 63, 0, 99);
        // Spans that touch at one measure need one double; a measure apart they need two.
        ShotBook book = Books.chosenShow(Books.GROWING, 0, new int[] {1, 2, 3}, 40, -1, 40);
        dueRow(book, 5, 40);
        book.show(1, 0, 41);
        dueRow(book, 5, 40, 99);
        dueRow(sixApart(), 63, 10, 20, 30, 40, 50, 60);
    }

    /** A healing thing, so chosen that each scene's span is one measure, apart from all others. */
    private static ShotBook sixApart() {
        return Books.chosenShow(Books.HEALING, 1, new int[] {50, 40, 30, 20, 10, 0}, 10, 20, 30, 40, 50, 60);
    }

    private void greatestDoubles() {
        ShotBook book = Books.withDays(1, 2);
        book.thing(Books.STEADY, 0, 1);
        dueRow(book, 3, 99);
        dueRow(stairs(), 1, 99);
        dueRow(stairs(), 2, 90);
        dueRow(stairs(), 48, 10);
        dueRow(stairs(), 16, 50);
        dueRow(stairs(), 33, 10, 99);
        dueRow(stairs(), 34, 10, 90);
        // A free scene beside one of the days is served by that day's measure.
        dueRow(threeDays(3, 4, -1), 4 + 8, 3);
        dueRow(threeDays(3, 4, -1), 4 + 8 + 16, 3, 4);
        dueRow(threeDays(3, 4, -1), 4 + 32, 99);
    }

    private void noDoubles() {
        ShotBook book = stairs();
        book.show(2, 0, 9);
        // Scene 3 must be 9 at most, and 10 at least.
        sentences.due("the span is empty", book.span(3, 0, 2), 0);
        for (int scenes = 0; scenes < 64; scenes++) {
            boolean has = (scenes >> 3 & 1) == 0;
            sentences.due("set " + scenes, book.doubles(0, scenes) == ShotBook.NONE ? 0 : 1, has ? 1 : 0);
            sentences.due("twin of set " + scenes, book.twin(0, scenes, 0) == ShotBook.NONE ? 0 : 1,
                has && scenes != 0 ? 1 : 0);
        }
    }

    private void fewestReshoots() {
        sentences.due("nothing at all", new ShotBook().reshoot(), 0);
        sentences.due("none chosen", Books.withDays(1, 1, 1, 1, 1, 1).reshoot(), 0);
        sentences.due("none clash", onOneDay(5, 5, 5, 5, 5, 5).reshoot(), 0);
        for (int odd = 0; odd < 6; odd++) {
            int[] measures = {5, 5, 5, 5, 5, 5};
            measures[odd] = 6;
            ShotBook book = onOneDay(measures);
            sentences.due("the odd one", book.reshoot(), 1 << odd);
            book.choose(odd, -1);
            sentences.due("without the odd one", book.reshoot(), 0);
        }
        sentences.due("all but one", onOneDay(1, 2, 3, 4, 5, 6).reshoot(), 31);
        sentences.due("one of many, though the greatest",
            Books.chosenShow(Books.GROWING, 0, new int[] {1, 2, 3, 4, 5, 6}, 5, 5, 5, 5, 5, 4).reshoot(), 32);
        sentences.due("clashes by unlike things", byUnlikeThings().reshoot(), 2);
    }

    /** Scene 1 clashes with scene 0 by one thing, and with scene 2 by another one. */
    private static ShotBook byUnlikeThings() {
        ShotBook book = Books.chosenShow(Books.STEADY, 0, new int[] {1, 1, 1}, 5, 6, -1);
        book.thing(Books.STEADY, 0, 1);
        book.show(1, 1, 7);
        book.show(2, 1, 8);
        return book;
    }

    private void leastReshoots() {
        sentences.due("one of two", onOneDay(1, 2).reshoot(), 1);
        sentences.due("three of six", onOneDay(1, 1, 1, 2, 2, 2).reshoot(), 7);
        sentences.due("three of six, crosswise", onOneDay(1, 2, 1, 2, 1, 2).reshoot(), 21);
        sentences.due("the last two", onOneDay(-1, -1, -1, -1, 1, 2).reshoot(), 16);
        sentences.due("without the last one", onOneDay(2, 1, 1, 1, 2, 2).reshoot(), 14);
    }

    /** Six scenes of one day; the first ones have chosen takes that show a steady thing so. */
    private static ShotBook onOneDay(int... measures) {
        return Books.chosenShow(Books.STEADY, 0, new int[] {1, 1, 1, 1, 1, 1}, measures);
    }

    private void spans() {
        sentences.in("Promise 20");
        sentences.test("The least (what = 0), the greatest (1) MEASURE of a SPAN, how many it has (2).", this::span);
        sentences.test("NUMBER: there is no such SCENE,", this::spanOfNoScene);
        sentences.test("THING,", this::spanOfNoThing);
        sentences.test("another what;", this::spanOfOtherWhat);
        sentences.test("NONE: it is empty (2: 0).", this::spanIsEmpty);
    }

    private void span() {
        ShotBook free = Books.withDays(1);
        free.thing(Books.STEADY, 0, 1);
        dueSpan(free, 0, 0, 99);
        for (int m : new int[] {0, 1, 98, 99}) {
            dueSpan(Books.chosenShow(Books.STEADY, 0, new int[] {1, 1}, -1, m), 0, m, m);
            dueSpan(Books.chosenShow(Books.STEADY, 0, new int[] {1, 2}, -1, m), 0, 0, 99);
            dueSpan(Books.chosenShow(Books.WANING, 0, new int[] {1, 2}, -1, m), 0, m, 99);
            dueSpan(Books.chosenShow(Books.WANING, 0, new int[] {2, 1}, -1, m), 0, 0, m);
            dueSpan(Books.chosenShow(Books.GROWING, 0, new int[] {1, 2}, -1, m), 0, 0, m);
            dueSpan(Books.chosenShow(Books.GROWING, 0, new int[] {2, 1}, -1, m), 0, m, 99);
            dueSpan(Books.chosenShow(Books.WANING, 0, new int[] {1, 1}, -1, m), 0, 0, 99);
            dueSpan(Books.chosenShow(Books.HEALING, 9, new int[] {1, 1}, -1, m), 0, 0, 99);
            dueSpan(Books.chosenShow(Books.HEALING, 9, new int[] {99, 0}, -1, m), 0, 0, 0);
            dueSpan(Books.chosenShow(Books.HEALING, 1, new int[] {2, 1}, -1, m), 0, Math.max(0, m - 1),
                Math.max(0, m - 1));
        }
        // Its own chosen take doesn't count, and one that isn't chosen doesn't either.
        ShotBook book = Books.chosenShow(Books.STEADY, 0, new int[] {1, 1}, 5, 6);
        dueSpan(book, 0, 6, 6);
        book.choose(1, -1);
        dueSpan(book, 0, 0, 99);
    }

    private void spanOfNoScene() {
        for (int what = 0; what <= 2; what++) {
            int one = what;
            sentences.onlyBelow(0, ShotBook.NUMBER, v -> thingWithoutScenes().span(v, 0, one));
            sentences.onlyBelow(2, ShotBook.NUMBER, v -> Books.some().span(v, 1, one));
            sentences.onlyBelow(6, ShotBook.NUMBER, v -> Books.full().span(v, 5, one));
        }
    }

    private static ShotBook thingWithoutScenes() {
        ShotBook book = new ShotBook();
        book.thing(Books.STEADY, 0, 1);
        return book;
    }

    private void spanOfNoThing() {
        for (int what = 0; what <= 2; what++) {
            int one = what;
            sentences.onlyBelow(0, ShotBook.NUMBER, v -> Books.withDays(1).span(0, v, one));
            sentences.onlyBelow(2, ShotBook.NUMBER, v -> Books.some().span(1, v, one));
            sentences.onlyBelow(6, ShotBook.NUMBER, v -> Books.full().span(5, v, one));
        }
    }

    private void spanOfOtherWhat() {
        sentences.onlyBelow(3, ShotBook.NUMBER, v -> Books.some().span(0, 0, v));
        sentences.onlyBelow(3, ShotBook.NUMBER, v -> emptySpan().span(2, 0, v));
    }

    /** Scene 2 would have to be 5 and 6. */
    private static ShotBook emptySpan() {
        return Books.chosenShow(Books.STEADY, 0, new int[] {1, 1, 1}, 5, 6);
    }

    private void spanIsEmpty() {
        ShotBook book = emptySpan();
        sentences.due("least", book.span(2, 0, 0), ShotBook.NONE);
        sentences.due("greatest", book.span(2, 0, 1), ShotBook.NONE);
        sentences.due("how many", book.span(2, 0, 2), 0);
        // Far from each other, so that the ends are far the wrong way round.
        book = Books.chosenShow(Books.GROWING, 0, new int[] {1, 3, 2}, 99, 0);
        dueSpan(book, 2, ShotBook.NONE, ShotBook.NONE);
        book = Books.chosenShow(Books.HEALING, 9, new int[] {0, 99}, -1, 99);
        dueSpan(book, 0, ShotBook.NONE, ShotBook.NONE);
        book = Books.chosenShow(Books.HEALING, 9, new int[] {0, 99}, -1, 1);
        dueSpan(book, 0, ShotBook.NONE, ShotBook.NONE);
    }

    private void doubles() {
        sentences.in("Promise 21");
        sentences.test("MEASURE i (from 0 on) of DOUBLES of a THING for a set of SCENES (bits).", this::twin);
        sentences.test("NUMBER: there is no such THING,", this::twinOfNoThing);
        sentences.test("or the set isn't one of SCENES that there are;", this::twinOfNoSet);
        sentences.test("NONE: there is none such (i below 0, too),", this::twinBeyond);
        sentences.test("or there are none.", this::twinOfNone);
        sentences.in("Promise 22");
        sentences.test("How many DOUBLES (0 for no SCENES).", this::howManyDoubles);
        sentences.test("NUMBER likewise;", this::doublesOfNoNumber);
        sentences.test("NONE: there are none.", this::doublesOfNone);
    }

    private void twin() {
        for (int i = 0; i < 6; i++) {
            sentences.due("measure " + i, sixApart().twin(0, 63, i), 10 * (i + 1));
            sentences.due("scene " + i + " alone", sixApart().twin(0, 1 << i, 0), 10 * (i + 1));
        }
        sentences.due("measure 0", threeDays(0, 99, 50).twin(0, 24, 0), 0);
        sentences.due("measure 99", threeDays(0, 99, 50).twin(0, 24, 1), 99);
        ShotBook book = stairs();
        sentences.due("asked crosswise, 1", book.twin(0, 63, 1), 90);
        sentences.due("asked crosswise, another set", book.twin(0, 16, 0), 50);
        sentences.due("asked crosswise, 0", book.twin(0, 63, 0), 10);
    }

    private void twinOfNoThing() {
        sentences.onlyBelow(0, ShotBook.NUMBER, v -> new ShotBook().twin(v, 0, 0));
        sentences.onlyBelow(2, ShotBook.NUMBER, v -> Books.some().twin(v, 0, 0));
        sentences.onlyBelow(2, ShotBook.NUMBER, v -> Books.some().twin(v, 3, 0));
        sentences.onlyBelow(6, ShotBook.NUMBER, v -> Books.full().twin(v, 63, 0));
    }

    private void twinOfNoSet() {
        sentences.onlyBelow(1, ShotBook.NUMBER, v -> thingWithoutScenes().twin(0, v, 0));
        sentences.onlyBelow(4, ShotBook.NUMBER, v -> Books.some().twin(0, v, 0));
        sentences.onlyBelow(64, ShotBook.NUMBER, v -> Books.full().twin(0, v, 0));
        for (int bit = 6; bit < 32; bit++) {
            sentences.due("bit " + bit, stairs().twin(0, 1 << bit, 0), ShotBook.NUMBER);
            sentences.due("bits 0 and " + bit, stairs().twin(0, 1 | 1 << bit, 0), ShotBook.NUMBER);
        }
    }

    private void twinBeyond() {
        sentences.onlyFrom(0, 1, ShotBook.NONE, v -> stairs().twin(0, 63, v), v -> v == 0 ? 10 : 90);
        sentences.onlyFrom(0, 5, ShotBook.NONE, v -> sixApart().twin(0, 63, v), v -> 10 * (v + 1));
        sentences.onlyBelow(0, ShotBook.NONE, v -> stairs().twin(0, 0, v));
        sentences.onlyBelow(0, ShotBook.NONE, v -> thingWithoutScenes().twin(0, 0, v));
    }

    private void twinOfNone() {
        sentences.onlyBelow(0, ShotBook.NONE, v -> emptySpan().twin(0, 4, v));
        sentences.onlyBelow(0, ShotBook.NONE, v -> emptySpan().twin(0, 7, v));
        sentences.due("without the empty one", emptySpan().twin(0, 3, 0), 5);
    }

    private void howManyDoubles() {
        sentences.due("no scenes", stairs().doubles(0, 0), 0);
        sentences.due("no scenes that there are", thingWithoutScenes().doubles(0, 0), 0);
        sentences.due("no scenes, beside an empty span", emptySpan().doubles(0, 0), 0);
        int[] sets = {1, 3, 7, 15, 31, 63};
        for (int i = 0; i < 6; i++) {
            sentences.due("set " + sets[i], sixApart().doubles(0, sets[i]), i + 1);
            sentences.due("scene " + i, sixApart().doubles(0, 1 << i), 1);
        }
    }

    private void doublesOfNoNumber() {
        sentences.onlyBelow(0, ShotBook.NUMBER, v -> new ShotBook().doubles(v, 0));
        sentences.onlyBelow(2, ShotBook.NUMBER, v -> Books.some().doubles(v, 0));
        sentences.onlyBelow(6, ShotBook.NUMBER, v -> Books.full().doubles(v, 63));
        sentences.onlyBelow(1, ShotBook.NUMBER, v -> thingWithoutScenes().doubles(0, v));
        sentences.onlyBelow(4, ShotBook.NUMBER, v -> Books.some().doubles(1, v));
        sentences.onlyBelow(64, ShotBook.NUMBER, v -> Books.full().doubles(5, v));
        for (int bit = 6; bit < 32; bit++) {
            sentences.due("bit " + bit, stairs().doubles(0, 1 << bit), ShotBook.NUMBER);
            sentences.due("bits 0 and " + bit, stairs().doubles(0, 1 | 1 << bit), ShotBook.NUMBER);
        }
    }

    private void doublesOfNone() {
        sentences.due("the empty one", emptySpan().doubles(0, 4), ShotBook.NONE);
        sentences.due("all", emptySpan().doubles(0, 7), ShotBook.NONE);
        sentences.due("without it", emptySpan().doubles(0, 3), 2);
    }

    private void reshootsAndCounts() {
        sentences.in("Promise 23");
        sentences.test("RESHOOTS, as bits.", this::reshoot);
        sentences.in("Promise 24");
        sentences.test("How many pairs of CHOSEN TAKES CLASH by a THING.", this::clashes);
        sentences.test("NUMBER: there is none such.", this::clashesOfNone);
        sentences.in("Promise 25");
        sentences.test("How many: what = 0 SCENES, 1 THINGS, 2 TAKES, 3 SCENES with a CHOSEN TAKE,", this::many);
        sentences.test("4 pairs of all TAKES that CLASH (by something).", this::noisyPairs);
        sentences.test("NUMBER: another what.", this::manyOfOtherWhat);
    }

    private void reshoot() {
        sentences.due("none", new ShotBook().reshoot(), 0);
        sentences.due("all but the last", onOneDay(1, 2, 3, 4, 5, 6).reshoot(), 31);
        sentences.due("the last", onOneDay(1, 1, 1, 1, 1, 2).reshoot(), 32);
        ShotBook book = onOneDay(1, 2, 3, 4, 5, 6);
        book.choose(0, -1);
        sentences.due("without the first", book.reshoot(), 30);
        sentences.due("the chosen ones stay", book.many(3), 5);
        sentences.due("asked again", book.reshoot(), 30);
    }

    private void clashes() {
        ShotBook book = onOneDay(1, 2, 3, 4, 5, 6);
        sentences.due("all pairs", book.clashes(0), 15);
        for (int s = 0; s < 6; s++) {
            book.choose(s, -1);
            sentences.due("chosen ones: " + (5 - s), book.clashes(0), (5 - s) * (4 - s) / 2);
        }
        sentences.due("nothing chosen", nothingChosen().clashes(5), 0);
        sentences.due("by one thing", byUnlikeThings().clashes(0), 1);
        sentences.due("by another thing", byUnlikeThings().clashes(1), 1);
        sentences.due("without scenes", thingWithoutScenes().clashes(0), 0);
    }

    private static ShotBook nothingChosen() {
        ShotBook book = Books.full();
        for (int s = 0; s < 6; s++) {
            book.choose(s, -1);
        }
        return book;
    }

    private void clashesOfNone() {
        sentences.onlyBelow(0, ShotBook.NUMBER, v -> new ShotBook().clashes(v));
        sentences.onlyBelow(2, ShotBook.NUMBER, v -> Books.some().clashes(v));
        sentences.onlyBelow(6, ShotBook.NUMBER, v -> Books.full().clashes(v));
    }

    private void many() {
        int[] ofNew = {0, 0, 0, 0};
        int[] ofSome = {2, 2, 3, 1};
        int[] ofFull = {6, 6, 16, 6};
        for (int what = 0; what <= 3; what++) {
            sentences.due("a new one, what " + what, new ShotBook().many(what), ofNew[what]);
            sentences.due("some, what " + what, Books.some().many(what), ofSome[what]);
            sentences.due("a full one, what " + what, Books.full().many(what), ofFull[what]);
        }
        ShotBook book = Books.some();
        book.choose(0, 0);
        sentences.due("take 0 is one, too", book.many(3), 1);
    }

    private void noisyPairs() {
        ShotBook book = Books.withDays(1, 1, 1, 1);
        book.thing(Books.STEADY, 0, 1);
        book.thing(Books.STEADY, 0, 9);
        for (int k = 0; k < 16; k++) {
            book.take(k % 4, 0);
            book.show(k, 0, k);
            book.show(k, 1, k);
        }
        sentences.due("all pairs but those of one scene", book.many(4), 120 - 4 * 6);
        for (int k = 0; k < 16; k++) {
            book.show(k, 0, 5);
        }
        sentences.due("by the other thing", book.many(4), 96);
        for (int k = 0; k < 16; k++) {
            book.show(k, 1, k == 15 ? 6 : 5);
        }
        sentences.due("the last one with all of other scenes", book.many(4), 12);
        book.show(15, 1, 5);
        sentences.due("none", book.many(4), 0);
        book.show(0, 0, 6);
        sentences.due("by what is least loud", book.many(4), 12);
        sentences.due("a new book", new ShotBook().many(4), 0);
    }

    private void manyOfOtherWhat() {
        sentences.onlyBelow(5, ShotBook.NUMBER, v -> new ShotBook().many(v));
        sentences.onlyBelow(5, ShotBook.NUMBER, v -> Books.full().many(v));
    }
}
