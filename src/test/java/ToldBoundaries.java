/** The boundary cases of promises 2 to 12: what is told. */
final class ToldBoundaries {
    private final Sentences sentences;

    ToldBoundaries(Sentences sentences) {
        this.sentences = sentences;
    }

    void run() {
        scenes();
        things();
        takes();
        asked();
    }

    private void scenes() {
        sentences.in("Promise 2");
        sentences.test("A SCENE comes: its number.", this::sceneComes);
        sentences.test("NUMBER: day or place isn't 0 to 99;", this::sceneOutOfRange);
        sentences.test("FULL.", this::scenesFull);
        sentences.in("Promise 3");
        sentences.test("DAY and PLACE of a SCENE become others: 1.", this::shifted);
        sentences.test("NUMBER: there is none such,", this::shiftOfNone);
        sentences.test("or as of scene().", this::shiftOutOfRange);
    }

    private void sceneComes() {
        ShotBook book = new ShotBook();
        sentences.due("the least", book.scene(0, 0), 0);
        sentences.due("the greatest", book.scene(99, 99), 1);
        sentences.due("one that is there already", book.scene(99, 99), 2);
        sentences.due("ahead of those that are there", book.scene(0, 99), 3);
        sentences.due("takes", book.of(3, 2), 0);
        sentences.due("chosen", book.of(3, 3), ShotBook.NONE);
    }

    private void sceneOutOfRange() {
        sentences.onlyFrom(0, 99, ShotBook.NUMBER, v -> new ShotBook().scene(v, 0), v -> 0);
        sentences.onlyFrom(0, 99, ShotBook.NUMBER, v -> new ShotBook().scene(99, v), v -> 0);
        sentences.due("both", new ShotBook().scene(-1, 100), ShotBook.NUMBER);
    }

    private void scenesFull() {
        ShotBook book = Books.withDays(1, 2, 3, 4, 5);
        book.keep();
        sentences.due("a sixth", book.scene(6, 0), 5);
        sentences.due("a seventh", book.scene(7, 0), ShotBook.FULL);
        sentences.due("a seventh again", book.scene(7, 0), ShotBook.FULL);
        book.back();
        sentences.due("a sixth again", book.scene(8, 0), 5);
    }

    private void shifted() {
        ShotBook book = Books.some();
        sentences.due("to the least", book.shift(0, 0, 0), 1);
        sentences.due("day", book.of(0, 0), 0);
        sentences.due("place", book.of(0, 1), 0);
        sentences.due("to the greatest", book.shift(0, 99, 99), 1);
        sentences.due("day", book.of(0, 0), 99);
        sentences.due("place", book.of(0, 1), 99);
        sentences.due("to what it is", book.shift(0, 99, 99), 1);
        sentences.due("takes stay", book.of(0, 2), 2);
        sentences.due("the chosen one stays", book.of(0, 3), 2);
        sentences.due("the other day stays", book.of(1, 0), 3);
        sentences.due("the other place stays", book.of(1, 1), 5);
        sentences.due("the last scene of a full book", Books.full().shift(5, 1, 1), 1);
    }

    private void shiftOfNone() {
        sentences.onlyBelow(0, ShotBook.NUMBER, v -> new ShotBook().shift(v, 0, 0));
        sentences.onlyBelow(2, ShotBook.NUMBER, v -> Books.some().shift(v, 0, 0));
        sentences.onlyBelow(6, ShotBook.NUMBER, v -> Books.full().shift(v, 0, 0));
    }

    private void shiftOutOfRange() {
        sentences.onlyFrom(0, 99, ShotBook.NUMBER, v -> Books.some().shift(1, v, 99), v -> 1);
        sentences.onlyFrom(0, 99, ShotBook.NUMBER, v -> Books.some().shift(1, 0, v), v -> 1);
    }

    private void things() {
        sentences.in("Promise 4");
        sentences.test("A THING comes: its number.", this::thingComes);
        sentences.test("NUMBER: there is no such LAW,", this::noSuchLaw);
        sentences.test("rate isn't 1 to 9 (HEALING;", this::rateOfHealing);
        sentences.test("else 0),", this::rateOfOthers);
        sentences.test("or loud not 1 to 9;", this::thingLoud);
        sentences.test("FULL.", this::thingsFull);
        sentences.in("Promise 5");
        sentences.test("How LOUD a THING is becomes v: what it was.", this::louder);
        sentences.test("NUMBER: there is none such,", this::loudOfNone);
        sentences.test("or v isn't 1 to 9.", this::loudOutOfRange);
    }

    private void thingComes() {
        ShotBook book = Books.some();
        sentences.due("a third", book.thing(Books.HEALING, 9, 1), 2);
        sentences.due("the same again", book.thing(Books.HEALING, 9, 1), 3);
        sentences.due("no take shows it", book.thingOf(3, 3), 0);
        for (int k = 0; k < 3; k++) {
            sentences.due("take " + k, book.told(k, 13), ShotBook.NONE);
        }
    }

    private void noSuchLaw() {
        sentences.onlyFrom(0, 2, ShotBook.NUMBER, v -> new ShotBook().thing(v, 0, 1), v -> 0);
        sentences.onlyFrom(3, 3, ShotBook.NUMBER, v -> new ShotBook().thing(v, 1, 1), v -> 0);
    }

    private void rateOfHealing() {
        sentences.onlyFrom(1, 9, ShotBook.NUMBER, v -> new ShotBook().thing(Books.HEALING, v, 1), v -> 0);
    }

    private void rateOfOthers() {
        for (int law = Books.STEADY; law <= Books.GROWING; law++) {
            int one = law;
            sentences.onlyFrom(0, 0, ShotBook.NUMBER, v -> new ShotBook().thing(one, v, 1), v -> 0);
        }
    }

    private void thingLoud() {
        sentences.onlyFrom(1, 9, ShotBook.NUMBER, v -> new ShotBook().thing(Books.STEADY, 0, v), v -> 0);
        sentences.onlyFrom(1, 9, ShotBook.NUMBER, v -> new ShotBook().thing(Books.HEALING, 9, v), v -> 0);
    }

    private void thingsFull() {
        ShotBook book = Books.full();
        for (int law = 0; law <= 3; law++) {
            sentences.due("law " + law, book.thing(law, law == Books.HEALING ? 1 : 0, 1), ShotBook.FULL);
        }
        book = new ShotBook();
        book.keep();
        for (int t = 0; t < 6; t++) {
            book.thing(0, 0, 1);
        }
        sentences.due("a seventh", book.thing(0, 0, 1), ShotBook.FULL);
        book.back();
        sentences.due("a first again", book.thing(0, 0, 1), 0);
    }

    private void louder() {
        ShotBook book = Books.some();
        sentences.due("2 becomes 1", book.loud(0, 1), 2);
        sentences.due("1 becomes 9", book.loud(0, 9), 1);
        sentences.due("9 stays 9", book.loud(0, 9), 9);
        sentences.due("told", book.thingOf(0, 2), 9);
        sentences.due("noise", book.noise(0, 1), 9);
        sentences.due("the other thing stays", book.loud(1, 8), 9);
        sentences.due("law stays", book.thingOf(1, 0), Books.HEALING);
        sentences.due("rate stays", book.thingOf(1, 1), 7);
    }

    private void loudOfNone() {
        sentences.onlyBelow(0, ShotBook.NUMBER, v -> new ShotBook().loud(v, 1));
        sentences.onlyBelow(2, ShotBook.NUMBER, v -> Books.some().loud(v, 1));
        sentences.onlyBelow(6, ShotBook.NUMBER, v -> Books.full().loud(v, 1));
    }

    private void loudOutOfRange() {
        sentences.onlyFrom(1, 9, ShotBook.NUMBER, v -> Books.some().loud(0, v), v -> 2);
    }

    private void takes() {
        sentences.in("Promise 6");
        sentences.test("A TAKE of a SCENE comes, that SHOWS nothing: its number.", this::takeComes);
        sentences.test("NUMBER: there is no such SCENE,", this::takeOfNone);
        sentences.test("or flaw isn't 0 to 20;", this::flawOutOfRange);
        sentences.test("FULL: 16,", this::takesFull);
        sentences.test("or 4 of this SCENE.", this::takesOfSceneFull);
        sentences.in("Promise 7");
        sentences.test("A TAKE SHOWS a THING with a MEASURE", this::shown);
        sentences.test("(-1: doesn't SHOW it):", this::notShown);
        sentences.test("what it was (-1: it didn't).", this::whatWasShown);
        sentences.test("NUMBER is answered as -5: there is no such TAKE,", this::showOfNoTake);
        sentences.test("THING,", this::showOfNoThing);
        sentences.test("or v isn't -1 to 99.", this::showOutOfRange);
        sentences.in("Promise 8");
        sentences.test("A TAKE SHOWS all THINGS as another one does", this::likeAnother);
        sentences.test("(what that one doesn't SHOW, it doesn't either):", this::likeWhatIsNotShown);
        sentences.test("how many of these it SHOWED otherwise", this::howManyOtherwise);
        sentences.test("(or SHOWED, or didn't).", this::howManyShownByOne);
        sentences.test("NUMBER: there is no such TAKE (either).", this::likeOfNone);
    }

    private void takeComes() {
        ShotBook book = Books.some();
        sentences.due("a fourth", book.take(1, 20), 3);
        sentences.due("shows", book.told(3, 2), 0);
        sentences.due("thing 0", book.told(3, 10), ShotBook.NONE);
        sentences.due("thing 1", book.told(3, 11), ShotBook.NONE);
        sentences.due("it isn't chosen", book.of(1, 3), ShotBook.NONE);
        sentences.due("what is chosen stays", book.of(0, 3), 2);
        // A number that was shown before back() shows nothing when it comes anew.
        book = Books.some();
        book.keep();
        book.take(1, 0);
        book.show(3, 0, 5);
        book.back();
        sentences.due("a fourth again", book.take(0, 0), 3);
        sentences.due("shows nothing again", book.told(3, 2), 0);
    }

    private void takeOfNone() {
        sentences.onlyBelow(0, ShotBook.NUMBER, v -> new ShotBook().take(v, 0));
        sentences.onlyFrom(0, 1, ShotBook.NUMBER, v -> Books.some().take(v, 0), v -> 3);
        sentences.onlyFrom(0, 5, ShotBook.NUMBER, v -> Books.withDays(0, 0, 0, 0, 0, 0).take(v, 0), v -> 0);
    }

    private void flawOutOfRange() {
        sentences.onlyFrom(0, 20, ShotBook.NUMBER, v -> Books.some().take(0, v), v -> 3);
    }

    private void takesFull() {
        ShotBook book = Books.withDays(1, 1, 1, 1, 1);
        for (int k = 0; k < 15; k++) {
            book.take(k % 4, 0);
        }
        book.keep();
        sentences.due("a sixteenth", book.take(4, 0), 15);
        sentences.due("a seventeenth of a scene with one", book.take(4, 0), ShotBook.FULL);
        sentences.due("a seventeenth of a scene with three", book.take(3, 0), ShotBook.FULL);
        book.back();
        sentences.due("a sixteenth again", book.take(3, 0), 15);
        sentences.due("a seventeenth of a scene with none", book.take(4, 0), ShotBook.FULL);
    }

    private void takesOfSceneFull() {
        ShotBook book = Books.withDays(1, 1);
        for (int k = 0; k < 3; k++) {
            book.take(1, 0);
        }
        book.keep();
        sentences.due("a fourth", book.take(1, 0), 3);
        sentences.due("a fifth", book.take(1, 0), ShotBook.FULL);
        sentences.due("one of the other scene", book.take(0, 0), 4);
        sentences.due("a fifth, still", book.take(1, 20), ShotBook.FULL);
        book.back();
        sentences.due("a fourth again", book.take(1, 0), 3);
    }

    private void shown() {
        ShotBook book = Books.full();
        book.show(15, 5, 0);
        sentences.due("the least", book.told(15, 15), 0);
        book.show(15, 5, 99);
        sentences.due("the greatest", book.told(15, 15), 99);
        book.show(0, 0, 98);
        sentences.due("of the first take", book.told(0, 10), 98);
        sentences.due("the next thing stays", book.told(0, 11), 11);
        sentences.due("the next take stays", book.told(1, 10), 7);
    }

    private void notShown() {
        ShotBook book = Books.full();
        book.show(15, 5, -1);
        sentences.due("not shown", book.told(15, 15), ShotBook.NONE);
        sentences.due("five are", book.told(15, 2), 5);
        sentences.due("by fifteen takes", book.thingOf(5, 3), 15);
        book.show(15, 5, -1);
        sentences.due("five, still", book.told(15, 2), 5);
    }

    private void whatWasShown() {
        ShotBook book = Books.some();
        sentences.due("not shown at first", book.show(1, 1, 0), -1);
        sentences.due("0", book.show(1, 1, 0), 0);
        sentences.due("0 again", book.show(1, 1, 99), 0);
        sentences.due("99", book.show(1, 1, -1), 99);
        sentences.due("not shown", book.show(1, 1, -1), -1);
        sentences.due("not shown, still", book.show(1, 1, 5), -1);
    }

    private void showOfNoTake() {
        sentences.onlyBelow(0, Books.FIVE, v -> new ShotBook().show(v, 0, 0));
        sentences.onlyBelow(3, Books.FIVE, v -> Books.some().show(v, 1, 0));
        sentences.onlyBelow(16, Books.FIVE, v -> Books.full().show(v, 5, -1));
    }

    private void showOfNoThing() {
        sentences.onlyBelow(0, Books.FIVE, v -> takeWithoutThings().show(0, v, 0));
        sentences.onlyBelow(2, Books.FIVE, v -> Books.some().show(2, v, 0));
        sentences.onlyBelow(6, Books.FIVE, v -> Books.full().show(15, v, -1));
    }

    private static ShotBook takeWithoutThings() {
        ShotBook book = Books.withDays(1);
        book.take(0, 0);
        return book;
    }

    private void showOutOfRange() {
        sentences.onlyFrom(-1, 99, Books.FIVE, v -> Books.some().show(2, 1, v), v -> 50);
    }

    private void likeAnother() {
        ShotBook book = Books.full();
        book.like(0, 15);
        for (int t = 0; t < 6; t++) {
            sentences.due("thing " + t, book.told(0, 10 + t), (15 * 7 + t * 11) % 100);
            sentences.due("thing " + t + " of the other one stays", book.told(15, 10 + t), (15 * 7 + t * 11) % 100);
        }
        sentences.due("its scene stays", book.told(0, 0), 0);
        sentences.due("its flaw stays", book.told(0, 1), 0);
        sentences.due("like itself", book.like(3, 3), 0);
        sentences.due("it stays", book.told(3, 10), 21);
        sentences.due("it shows all", book.told(3, 2), 6);
    }

    private void likeWhatIsNotShown() {
        ShotBook book = Books.some();
        book.take(1, 0);
        sentences.due("one shown", book.told(2, 2), 1);
        book.like(2, 3);
        sentences.due("none shown", book.told(2, 2), 0);
        sentences.due("not shown", book.told(2, 11), ShotBook.NONE);
    }

    private void howManyOtherwise() {
        ShotBook book = Books.full();
        sentences.due("all six", book.like(15, 0), 6);
        sentences.due("none", book.like(15, 0), 0);
        book.show(15, 5, 56);
        sentences.due("the last one", book.like(15, 0), 1);
        book.show(15, 0, 1);
        sentences.due("the first one", book.like(15, 0), 1);
        sentences.due("without things", takeWithoutThings().like(0, 0), 0);
    }

    private void howManyShownByOne() {
        ShotBook book = Books.some();
        book.take(1, 0);
        sentences.due("neither shows", book.like(3, 3), 0);
        sentences.due("it didn't, 0", book.like(3, 0), 1);
        sentences.due("it showed 0", book.like(3, 2), 2);
        sentences.due("it showed 50", book.like(3, 1), 2);
        book.show(1, 0, -1);
        sentences.due("it showed 99", book.like(3, 1), 1);
        sentences.due("neither shows again", book.like(3, 1), 0);
    }

    private void likeOfNone() {
        sentences.onlyBelow(0, ShotBook.NUMBER, v -> new ShotBook().like(v, v));
        sentences.onlyBelow(3, ShotBook.NUMBER, v -> Books.some().like(v, 0));
        sentences.onlyBelow(3, ShotBook.NUMBER, v -> Books.some().like(2, v));
        sentences.onlyBelow(16, ShotBook.NUMBER, v -> Books.full().like(v, 15));
        sentences.onlyBelow(16, ShotBook.NUMBER, v -> Books.full().like(15, v));
    }

    private void asked() {
        sentences.in("Promise 9");
        sentences.test("Of a SCENE: what = 0 DAY, 1 PLACE, 2 how many TAKES,", this::ofScene);
        sentences.test("3 the CHOSEN one (NONE: none).", this::chosenOfScene);
        sentences.test("NUMBER: there is none such,", this::ofNone);
        sentences.test("another what.", this::ofOtherWhat);
        sentences.in("Promise 10");
        sentences.test("Of a TAKE: what = 0 its SCENE, 1 FLAW, 2 how many THINGS it SHOWS,", this::toldOfTake);
        sentences.test("10 + t: the MEASURE of a THING t that there is (NONE: it doesn't SHOW it).", this::toldMeasure);
        sentences.test("NUMBER: there is none such,", this::toldOfNone);
        sentences.test("another what.", this::toldOtherWhat);
        sentences.in("Promise 11");
        sentences.test("Of a THING: what = 0 LAW, 1 RATE, 2 how LOUD, 3 how many TAKES SHOW it.", this::ofThing);
        sentences.test("NUMBER: there is none such,", this::thingOfNone);
        sentences.test("another what.", this::thingOtherWhat);
        sentences.in("Promise 12");
        sentences.test("1: the first SCENE is AHEAD, 2: the other one;", this::oneIsAhead);
        sentences.test("0: neither.", this::neitherIsAhead);
        sentences.test("NUMBER: there is no such SCENE (either).", this::aheadOfNone);
    }

    private void ofScene() {
        ShotBook book = Books.full();
        sentences.due("day", book.of(5, 0), 2);
        sentences.due("place", book.of(5, 1), 95);
        sentences.due("two takes", book.of(5, 2), 2);
        sentences.due("three takes", book.of(0, 2), 3);
        sentences.due("four takes", fourTakes().of(0, 2), 4);
        sentences.due("no takes", Books.withDays(0).of(0, 2), 0);
    }

    private static ShotBook fourTakes() {
        ShotBook book = Books.withDays(1);
        for (int k = 0; k < 4; k++) {
            book.take(0, k);
        }
        return book;
    }

    private void chosenOfScene() {
        ShotBook book = Books.some();
        sentences.due("take 2", book.of(0, 3), 2);
        sentences.due("none", book.of(1, 3), ShotBook.NONE);
        book.choose(0, 0);
        sentences.due("take 0 isn't none", book.of(0, 3), 0);
        book.choose(0, -1);
        sentences.due("none again", book.of(0, 3), ShotBook.NONE);
        book = Books.full();
        book.choose(3, 15);
        sentences.due("take 15", book.of(3, 3), 15);
    }

    private void ofNone() {
        for (int what = 0; what <= 3; what++) {
            int one = what;
            sentences.onlyBelow(0, ShotBook.NUMBER, v -> new ShotBook().of(v, one));
            sentences.onlyBelow(2, ShotBook.NUMBER, v -> Books.some().of(v, one));
            sentences.onlyBelow(6, ShotBook.NUMBER, v -> Books.full().of(v, one));
        }
    }

    private void ofOtherWhat() {
        sentences.onlyBelow(4, ShotBook.NUMBER, v -> Books.some().of(0, v));
    }

    private void toldOfTake() {
        ShotBook book = Books.full();
        sentences.due("scene", book.told(15, 0), 3);
        sentences.due("flaw", book.told(15, 1), 15);
        sentences.due("all things", book.told(15, 2), 6);
        book.show(15, 5, 0);
        sentences.due("a measure of 0 is shown", book.told(15, 2), 6);
        book.show(15, 0, -1);
        sentences.due("all but the first", book.told(15, 2), 5);
        book.show(15, 5, -1);
        sentences.due("all but the first and last", book.told(15, 2), 4);
        sentences.due("without things", takeWithoutThings().told(0, 2), 0);
    }

    private void toldMeasure() {
        ShotBook book = Books.some();
        sentences.due("0", book.told(0, 10), 0);
        sentences.due("99", book.told(1, 10), 99);
        sentences.due("not shown", book.told(0, 11), ShotBook.NONE);
        sentences.due("there is no thing 2", book.told(0, 12), ShotBook.NUMBER);
        book.thing(Books.STEADY, 0, 1);
        sentences.due("there is a thing 2", book.told(0, 12), ShotBook.NONE);
        sentences.due("there is no thing 0", takeWithoutThings().told(0, 10), ShotBook.NUMBER);
        sentences.due("the last thing", Books.full().told(15, 15), 60);
        sentences.due("one beyond it", Books.full().told(15, 16), ShotBook.NUMBER);
    }

    private void toldOfNone() {
        for (int what : new int[] {0, 1, 2, 10, 11}) {
            sentences.onlyBelow(0, ShotBook.NUMBER, v -> new ShotBook().told(v, what));
            sentences.onlyBelow(3, ShotBook.NUMBER, v -> Books.some().told(v, what));
            sentences.onlyBelow(16, ShotBook.NUMBER, v -> Books.full().told(v, what));
        }
    }

    private void toldOtherWhat() {
        ShotBook book = Books.full();
        for (int what = -9; what <= 30; what++) {
            boolean fits = what >= 0 && what <= 2 || what >= 10 && what <= 15;
            sentences.due("what " + what, book.told(3, what) == ShotBook.NUMBER ? 0 : 1, fits ? 1 : 0);
        }
        // 10 less than the least number would be a great one.
        for (int beyond = 0; beyond < 10; beyond++) {
            sentences.due("least, and some more", book.told(3, Books.LEAST + beyond), ShotBook.NUMBER);
            sentences.due("most, less some", book.told(3, Books.MOST - beyond), ShotBook.NUMBER);
        }
    }

    private void ofThing() {
        ShotBook book = Books.full();
        sentences.due("law", book.thingOf(5, 0), Books.WANING);
        sentences.due("rate of another law", book.thingOf(5, 1), 0);
        sentences.due("rate", book.thingOf(3, 1), 3);
        sentences.due("loud", book.thingOf(5, 2), 6);
        sentences.due("all takes", book.thingOf(5, 3), 16);
        book.show(15, 5, -1);
        book.show(0, 5, -1);
        sentences.due("all but the first and last", book.thingOf(5, 3), 14);
        sentences.due("measure 0 is shown", Books.some().thingOf(0, 3), 2);
        ShotBook bare = new ShotBook();
        bare.thing(0, 0, 1);
        sentences.due("without takes", bare.thingOf(0, 3), 0);
    }

    private void thingOfNone() {
        for (int what = 0; what <= 3; what++) {
            int one = what;
            sentences.onlyBelow(0, ShotBook.NUMBER, v -> new ShotBook().thingOf(v, one));
            sentences.onlyBelow(2, ShotBook.NUMBER, v -> Books.some().thingOf(v, one));
            sentences.onlyBelow(6, ShotBook.NUMBER, v -> Books.full().thingOf(v, one));
        }
    }

    private void thingOtherWhat() {
        sentences.onlyBelow(4, ShotBook.NUMBER, v -> Books.some().thingOf(0, v));
    }

    private void oneIsAhead() {
        ShotBook book = Books.full();
        sentences.due("first and last", book.ahead(0, 5), 1);
        sentences.due("last and first", book.ahead(5, 0), 2);
        sentences.due("one day", book.ahead(4, 5), 1);
        sentences.due("one day, turned", book.ahead(5, 4), 2);
        book.shift(0, 99, 99);
        book.shift(5, 0, 0);
        sentences.due("shifted", book.ahead(0, 5), 2);
        sentences.due("shifted, turned", book.ahead(5, 0), 1);
    }

    private void neitherIsAhead() {
        ShotBook book = Books.some();
        sentences.due("itself", book.ahead(1, 1), 0);
        book.shift(0, 3, 5);
        sentences.due("alike", book.ahead(0, 1), 0);
        sentences.due("alike, turned", book.ahead(1, 0), 0);
    }

    private void aheadOfNone() {
        sentences.onlyBelow(0, ShotBook.NUMBER, v -> new ShotBook().ahead(v, v));
        sentences.onlyBelow(2, ShotBook.NUMBER, v -> Books.some().ahead(v, 1));
        sentences.onlyBelow(2, ShotBook.NUMBER, v -> Books.some().ahead(1, v));
        sentences.onlyBelow(6, ShotBook.NUMBER, v -> Books.full().ahead(v, 5));
        sentences.onlyBelow(6, ShotBook.NUMBER, v -> Books.full().ahead(5, v));
    }
}
