/** The boundary cases of clashes and cuts: what the Terms say of them, and promises 13 to 19. */
final class CutBoundaries {
    private final Sentences sentences;

    CutBoundaries(Sentences sentences) {
        this.sentences = sentences;
    }

    void run() {
        terms();
        clashesAndNoise();
        cuts();
        choices();
    }

    private void terms() {
        sentences.in("Terms");
        sentences.test("A CUT gives each SCENE that has TAKES one of these.", this::cutOfEachScene);
        sentences.test("It COSTS NOISE of each two of them, and their FLAWS, all together.", this::costOfCut);
        sentences.test("THE BEST CUT COSTS least;", this::leastCost);
        sentences.test("of several it is the one in which the first SCENE for which they are unlike has the lesser "
            + "TAKE.", this::lesserTakes);
        sentences.test("Each SCENE may have a CHOSEN TAKE (none at first), one of its own.", this::chosenAtFirst);
    }

    private void cutOfEachScene() {
        ShotBook book = Books.withDays(1, 1, 1, 1, 1, 1);
        int[] scenes = {5, 3, 0, 5};
        for (int scene : scenes) {
            book.take(scene, 7);
        }
        int[] due = {2, ShotBook.NONE, ShotBook.NONE, 1, ShotBook.NONE, 0};
        for (int s = 0; s < 6; s++) {
            sentences.due("scene " + s, book.cut(s), due[s]);
        }
        sentences.due("three of them", book.cost(), 21);
    }

    /** Six scenes of one day; each two takes of unlike scenes clash by all six things. */
    private static ShotBook dearest(int loud, int flaw) {
        ShotBook book = Books.withDays(1, 1, 1, 1, 1, 1);
        for (int t = 0; t < 6; t++) {
            book.thing(Books.STEADY, 0, loud);
        }
        for (int k = 0; k < 16; k++) {
            book.take(k % 6, flaw);
            for (int t = 0; t < 6; t++) {
                book.show(k, t, 10 + k);
            }
        }
        return book;
    }

    private void costOfCut() {
        sentences.due("the most that may be", dearest(9, 20).cost(), 15 * 54 + 6 * 20);
        sentences.due("noise alone", dearest(1, 0).cost(), 15 * 6);
        ShotBook book = dearest(9, 20);
        for (int t = 0; t < 6; t++) {
            for (int k = 0; k < 16; k++) {
                book.show(k, t, 0);
            }
        }
        sentences.due("flaws alone", book.cost(), 120);
    }

    /** Two scenes of one day; scene 0 has a flawed take that fits and a take with no flaw that clashes. */
    private static ShotBook flawAgainstNoise(int flaw, int loud) {
        ShotBook book = Books.withDays(1, 1);
        book.thing(Books.STEADY, 0, loud);
        int[] scenes = {0, 0, 1};
        for (int k = 0; k < 3; k++) {
            book.take(scenes[k], k == 1 ? flaw : 0);
            book.show(k, 0, k == 0 ? 4 : 5);
        }
        return book;
    }

    private void leastCost() {
        for (int flaw = 0; flaw <= 20; flaw++) {
            for (int loud = 1; loud <= 9; loud++) {
                ShotBook book = flawAgainstNoise(flaw, loud);
                sentences.due("flaw " + flaw + ", loud " + loud, book.cost(), Math.min(flaw, loud));
                sentences.due("flaw " + flaw + ", loud " + loud + ": take", book.cut(0), flaw < loud ? 1 : 0);
            }
        }
        // The first scene's best is to be given up for those that come behind it.
        ShotBook book = dearest(9, 0);
        for (int t = 0; t < 6; t++) {
            for (int k = 6; k < 12; k++) {
                book.show(k, t, 50);
            }
        }
        sentences.due("the second takes fit", book.cost(), 0);
        for (int s = 0; s < 6; s++) {
            sentences.due("scene " + s, book.cut(s), 6 + s);
        }
    }

    private void lesserTakes() {
        ShotBook book = dearest(9, 20);
        for (int s = 0; s < 6; s++) {
            sentences.due("all alike, scene " + s, book.cut(s), s);
        }
        // 0 goes with 5 and 1 with 2: the first scene has the lesser one, though the second has the greater one.
        book = Books.withDays(1, 1);
        book.thing(Books.STEADY, 0, 9);
        int[] scenes = {0, 0, 1, 1, 1, 1};
        int[] measures = {8, 7, 7, 1, 2, 8};
        for (int k = 0; k < 6; k++) {
            book.take(scenes[k], 0);
            book.show(k, 0, measures[k]);
        }
        sentences.due("first scene", book.cut(0), 0);
        sentences.due("second scene", book.cut(1), 5);
        // Scene 1 has the least takes of all, but scene 0 is the first one.
        book = Books.withDays(1, 1, 1);
        book.thing(Books.STEADY, 0, 9);
        int[] crosswise = {1, 1, 0, 0};
        for (int k = 0; k < 4; k++) {
            book.take(crosswise[k], 3);
            book.show(k, 0, k == 0 || k == 3 ? 1 : 2);
        }
        sentences.due("first scene of the crosswise ones", book.cut(0), 2);
        sentences.due("second scene of the crosswise ones", book.cut(1), 1);
        // The first scene is the one with the first number, not the first one of the story.
        book.shift(0, 1, 99);
        sentences.due("by number, not by place", book.cut(0), 2);
        // The first scene alike, it's the second one that decides, and the third one follows.
        book = Books.withDays(1, 1, 1);
        book.thing(Books.STEADY, 0, 9);
        int[] threes = {0, 1, 1, 2, 2};
        for (int k = 0; k < 5; k++) {
            book.take(threes[k], 0);
            book.show(k, 0, k == 0 ? -1 : k == 1 || k == 4 ? 1 : 2);
        }
        sentences.due("second scene decides", book.cut(1), 1);
        sentences.due("third scene follows", book.cut(2), 4);
    }

    private void chosenAtFirst() {
        ShotBook book = Books.withDays(1, 1, 1, 1, 1, 1);
        for (int k = 0; k < 12; k++) {
            book.take(k % 6, 0);
        }
        sentences.due("at first", book.many(3), 0);
        for (int k = 0; k < 12; k++) {
            for (int s = 0; s < 6; s++) {
                sentences.due("scene " + s + ", take " + k, book.choose(s, k) == ShotBook.OTHER ? 0 : 1,
                    k % 6 == s ? 1 : 0);
            }
        }
        sentences.due("one of each", book.many(3), 6);
    }

    private void clashesAndNoise() {
        sentences.in("Promise 13");
        sentences.test("Whether two TAKES CLASH by a THING: 1, 0.", this::clash);
        sentences.test("NUMBER: there is no such TAKE (either),", this::clashOfNoTake);
        sentences.test("THING.", this::clashByNoThing);
        sentences.in("Promise 14");
        sentences.test("NOISE of two TAKES.", this::noise);
        sentences.test("NUMBER: there is no such TAKE (either).", this::noiseOfNone);
    }

    private void clash() {
        ShotBook book = Books.some();
        sentences.due("they do", book.clash(0, 1, 0), 1);
        sentences.due("the other way", book.clash(1, 0, 0), 1);
        sentences.due("not by the other thing", book.clash(0, 1, 1), 0);
        sentences.due("a take and itself", book.clash(1, 1, 0), 0);
        book.shift(1, 4, 5);
        sentences.due("no longer", book.clash(0, 1, 0), 0);
        book = dearest(1, 0);
        sentences.due("first and last, by the last thing", book.clash(0, 15, 5), 1);
        sentences.due("last and first, by the last thing", book.clash(15, 0, 5), 1);
        sentences.due("one scene", book.clash(3, 15, 5), 0);
    }

    private void clashOfNoTake() {
        sentences.onlyBelow(0, ShotBook.NUMBER, v -> new ShotBook().clash(v, v, 0));
        sentences.onlyBelow(3, ShotBook.NUMBER, v -> Books.some().clash(v, 0, 1));
        sentences.onlyBelow(3, ShotBook.NUMBER, v -> Books.some().clash(2, v, 1));
        sentences.onlyBelow(16, ShotBook.NUMBER, v -> Books.full().clash(v, 15, 5));
        sentences.onlyBelow(16, ShotBook.NUMBER, v -> Books.full().clash(15, v, 5));
    }

    private void clashByNoThing() {
        sentences.onlyBelow(0, ShotBook.NUMBER, v -> flawlessTakes().clash(0, 1, v));
        sentences.onlyBelow(2, ShotBook.NUMBER, v -> Books.some().clash(0, 1, v));
        sentences.onlyBelow(2, ShotBook.NUMBER, v -> Books.some().clash(0, 0, v));
        sentences.onlyBelow(6, ShotBook.NUMBER, v -> Books.full().clash(0, 15, v));
    }

    private static ShotBook flawlessTakes() {
        ShotBook book = Books.withDays(1, 1);
        book.take(0, 0);
        book.take(1, 0);
        return book;
    }

    private void noise() {
        sentences.due("the most that may be", dearest(9, 0).noise(0, 15), 54);
        sentences.due("the least by six things", dearest(1, 0).noise(15, 0), 6);
        sentences.due("one scene", dearest(9, 0).noise(3, 15), 0);
        sentences.due("itself", dearest(9, 0).noise(15, 15), 0);
        sentences.due("without things", flawlessTakes().noise(0, 1), 0);
        sentences.due("flaws are no noise", dearest(1, 20).noise(0, 1), 6);
    }

    private void noiseOfNone() {
        sentences.onlyBelow(0, ShotBook.NUMBER, v -> new ShotBook().noise(v, v));
        sentences.onlyBelow(3, ShotBook.NUMBER, v -> Books.some().noise(v, 2));
        sentences.onlyBelow(3, ShotBook.NUMBER, v -> Books.some().noise(2, v));
        sentences.onlyBelow(16, ShotBook.NUMBER, v -> Books.full().noise(v, 15));
        sentences.onlyBelow(16, ShotBook.NUMBER, v -> Books.full().noise(15, v));
    }

    private void cuts() {
        sentences.in("Promise 15");
        sentences.test("What THE BEST CUT COSTS", this::cost);
        sentences.test("(0 without TAKES).", this::costWithoutTakes);
        sentences.in("Promise 16");
        sentences.test("The TAKE that THE BEST CUT gives a SCENE.", this::cut);
        sentences.test("NUMBER: there is no such SCENE;", this::cutOfNone);
        sentences.test("NONE: it has no TAKES.", this::cutWithoutTakes);
    }

    private void cost() {
        ShotBook book = Books.withDays(1);
        book.take(0, 20);
        sentences.due("the greatest flaw", book.cost(), 20);
        book.take(0, 19);
        sentences.due("one less", book.cost(), 19);
        book.take(0, 0);
        sentences.due("no flaw", book.cost(), 0);
        book.choose(0, 0);
        sentences.due("whatever is chosen", book.cost(), 0);
        book = flawAgainstNoise(20, 9);
        sentences.due("noise", book.cost(), 9);
        book.loud(0, 1);
        sentences.due("less noise", book.cost(), 1);
        book.shift(0, 2, 0);
        sentences.due("no noise", book.cost(), 0);
    }

    private void costWithoutTakes() {
        sentences.due("nothing at all", new ShotBook().cost(), 0);
        ShotBook book = Books.withDays(1, 1, 1, 1, 1, 1);
        book.thing(0, 0, 9);
        sentences.due("scenes and a thing", book.cost(), 0);
        book.keep();
        book.take(0, 20);
        sentences.due("a take", book.cost(), 20);
        book.back();
        sentences.due("no take again", book.cost(), 0);
    }

    private void cut() {
        ShotBook book = Books.withDays(1);
        for (int k = 0; k < 4; k++) {
            book.take(0, 20 - k);
            sentences.due("the latest is the best", book.cut(0), k);
        }
        book = dearest(9, 20);
        book.show(15, 0, -1);
        sentences.due("the last take", book.cut(3), 15);
        sentences.due("the last scene", book.cut(5), 5);
        sentences.due("nothing is chosen", book.many(3), 0);
    }

    private void cutOfNone() {
        sentences.onlyBelow(0, ShotBook.NUMBER, v -> new ShotBook().cut(v));
        sentences.onlyBelow(2, ShotBook.NUMBER, v -> Books.some().cut(v));
        sentences.onlyBelow(6, ShotBook.NUMBER, v -> Books.full().cut(v));
    }

    private void cutWithoutTakes() {
        ShotBook book = Books.withDays(1, 1, 1);
        for (int s = 0; s < 3; s++) {
            sentences.due("no takes at all", book.cut(s), ShotBook.NONE);
        }
        book.take(1, 0);
        sentences.due("scene ahead of it", book.cut(0), ShotBook.NONE);
        sentences.due("take 0 isn't none", book.cut(1), 0);
        sentences.due("scene behind it", book.cut(2), ShotBook.NONE);
        book.keep();
        book.take(0, 0);
        sentences.due("a take", book.cut(0), 1);
        book.back();
        sentences.due("no take again", book.cut(0), ShotBook.NONE);
    }

    private void choices() {
        sentences.in("Promise 17");
        sentences.test("The CHOSEN TAKE of a SCENE is this one", this::choose);
        sentences.test("(-1: none):", this::chooseNone);
        sentences.test("what it was (-1: none).", this::whatWasChosen);
        sentences.test("NUMBER is answered as -5: there is no such SCENE,", this::chooseOfNoScene);
        sentences.test("or TAKE;", this::chooseNoTake);
        sentences.test("OTHER.", this::chooseOfOtherScene);
        sentences.in("Promise 18");
        sentences.test("CHOSEN TAKES are those of THE BEST CUT", this::adopt);
        sentences.test("(none for SCENES without TAKES):", this::adoptWithoutTakes);
        sentences.test("for how many SCENES that is new.", this::adoptNew);
        sentences.in("Promise 19");
        sentences.test("What the CHOSEN TAKES COST: NOISE of each two, and their FLAWS, together.", this::chosen);
    }

    private void choose() {
        ShotBook book = Books.full();
        book.choose(3, 15);
        sentences.due("the last take", book.of(3, 3), 15);
        sentences.due("the others stay", book.of(2, 3), 2);
        book.choose(0, 0);
        sentences.due("the first take", book.of(0, 3), 0);
        sentences.due("all have one", book.many(3), 6);
    }

    private void chooseNone() {
        ShotBook book = Books.full();
        book.choose(5, -1);
        sentences.due("none", book.of(5, 3), ShotBook.NONE);
        sentences.due("five have one", book.many(3), 5);
        book.choose(5, -1);
        sentences.due("none, still", book.of(5, 3), ShotBook.NONE);
        sentences.due("of a scene without takes", Books.withDays(1).choose(0, -1), -1);
    }

    private void whatWasChosen() {
        ShotBook book = Books.some();
        sentences.due("none", book.choose(1, 1), -1);
        sentences.due("itself", book.choose(1, 1), 1);
        sentences.due("take 2", book.choose(0, 0), 2);
        sentences.due("take 0", book.choose(0, -1), 0);
        sentences.due("none again", book.choose(0, -1), -1);
        sentences.due("none, still", book.choose(0, 2), -1);
    }

    private void chooseOfNoScene() {
        sentences.onlyBelow(0, Books.FIVE, v -> new ShotBook().choose(v, -1));
        sentences.onlyBelow(2, Books.FIVE, v -> Books.some().choose(v, -1));
        sentences.onlyBelow(2, Books.FIVE, v -> Books.some().choose(v, 0));
        sentences.onlyBelow(6, Books.FIVE, v -> Books.full().choose(v, 15));
    }

    private void chooseNoTake() {
        sentences.onlyFrom(-1, -1, Books.FIVE, v -> Books.withDays(1).choose(0, v), v -> -1);
        sentences.onlyFrom(-1, 0, Books.FIVE, v -> oneTake().choose(0, v), v -> -1);
        for (int s = 0; s < 6; s++) {
            int scene = s;
            sentences.onlyFrom(-1, 15, Books.FIVE, v -> Books.full().choose(scene, v),
                v -> v == -1 || v % 6 == scene ? scene : ShotBook.OTHER);
        }
    }

    private static ShotBook oneTake() {
        ShotBook book = Books.withDays(1);
        book.take(0, 0);
        return book;
    }

    private void chooseOfOtherScene() {
        ShotBook book = Books.some();
        sentences.due("take 0", book.choose(1, 0), ShotBook.OTHER);
        sentences.due("take 2", book.choose(1, 2), ShotBook.OTHER);
        sentences.due("take 1", book.choose(0, 1), ShotBook.OTHER);
        sentences.due("the chosen one stays", book.of(0, 3), 2);
        sentences.due("none stays", book.of(1, 3), ShotBook.NONE);
        book.scene(0, 0);
        sentences.due("of a scene without takes", book.choose(2, 0), ShotBook.OTHER);
    }

    private void adopt() {
        ShotBook book = Books.full();
        book.adopt();
        for (int s = 0; s < 6; s++) {
            sentences.due("scene " + s, book.of(s, 3), book.cut(s));
        }
        sentences.due("cost", book.chosen(), book.cost());
        book = dearest(9, 20);
        book.show(15, 0, -1);
        book.adopt();
        sentences.due("the last take", book.of(3, 3), 15);
        sentences.due("all have one", book.many(3), 6);
    }

    private void adoptWithoutTakes() {
        sentences.due("nothing at all", new ShotBook().adopt(), 0);
        ShotBook book = Books.withDays(1, 1, 1);
        sentences.due("no takes at all", book.adopt(), 0);
        sentences.due("none has one", book.many(3), 0);
        book.take(1, 0);
        sentences.due("one scene with takes", book.adopt(), 1);
        sentences.due("scene ahead of it", book.of(0, 3), ShotBook.NONE);
        sentences.due("it", book.of(1, 3), 0);
        sentences.due("scene behind it", book.of(2, 3), ShotBook.NONE);
    }

    private void adoptNew() {
        ShotBook book = dearest(1, 0);
        sentences.due("all six", book.adopt(), 6);
        sentences.due("none", book.adopt(), 0);
        for (int s = 0; s < 4; s++) {
            book.choose(s, 6 + s);
            sentences.due("another one of scene " + s, book.adopt(), 1);
        }
        for (int s = 0; s < 6; s++) {
            book.choose(s, -1);
            sentences.due("none of scene " + s, book.adopt(), 1);
        }
        book.show(15, 0, -1);
        sentences.due("a better one", book.adopt(), 1);
    }

    private void chosen() {
        sentences.due("nothing at all", new ShotBook().chosen(), 0);
        ShotBook book = dearest(9, 20);
        sentences.due("none chosen", book.chosen(), 0);
        for (int s = 0; s < 6; s++) {
            book.choose(s, s);
            sentences.due("chosen ones: " + (s + 1), book.chosen(), 20 * (s + 1) + 54 * s * (s + 1) / 2);
        }
        book.choose(0, -1);
        sentences.due("all but the first", book.chosen(), 100 + 540);
        book = flawAgainstNoise(20, 9);
        book.choose(0, 1);
        book.choose(1, 2);
        sentences.due("a flaw", book.chosen(), 20);
        book.choose(0, 0);
        sentences.due("a clash", book.chosen(), 9);
    }
}
