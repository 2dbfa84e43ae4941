/** Each promise of the document by hand: ordinary inputs, the named edges, wrong inputs. */
public final class PromiseTest {
    private static final int NUMBER = ShotBook.NUMBER;
    private static final int FULL = ShotBook.FULL;
    private static final int OTHER = ShotBook.OTHER;
    private static final int NONE = ShotBook.NONE;
    private static final int FIVE = -5;
    private static final int LEAST = Integer.MIN_VALUE;
    private static final int MOST = Integer.MAX_VALUE;
    private static final int STEADY = 0;
    private static final int WANING = 1;
    private static final int GROWING = 2;
    private static final int HEALING = 3;

    private final Checks checks = new Checks();
    private int promise = 0;

    public static void main(String[] args) {
        PromiseTest test = new PromiseTest();
        test.newObject();
        test.scene();
        test.shift();
        test.thing();
        test.loud();
        test.take();
        test.show();
        test.like();
        test.of();
        test.told();
        test.thingOf();
        test.ahead();
        test.clash();
        test.clashOfHealing();
        test.noise();
        test.cost();
        test.cut();
        test.choose();
        test.adopt();
        test.chosen();
        test.span();
        test.spanOfHealing();
        test.twin();
        test.doubles();
        test.reshoot();
        test.clashes();
        test.many();
        test.keep();
        test.back();
        test.checks.end();
    }

    private void due(String call, int got, int want) {
        checks.due("promise " + promise + ": " + call, got, want);
    }

    private void newObject() {
        promise = 1;
        ShotBook book = new ShotBook();
        for (int what = 0; what <= 4; what++) {
            due("many(" + what + ")", book.many(what), 0);
        }
        due("back()", book.back(), NONE);
        due("cost()", book.cost(), 0);
        due("chosen()", book.chosen(), 0);
        due("reshoot()", book.reshoot(), 0);
        due("adopt()", book.adopt(), 0);
        due("of(0, 0)", book.of(0, 0), NUMBER);
        due("told(0, 0)", book.told(0, 0), NUMBER);
        due("thingOf(0, 0)", book.thingOf(0, 0), NUMBER);
        ShotBook other = new ShotBook();
        book.scene(1, 1);
        due("many(0) of another object", other.many(0), 0);
    }

    private void scene() {
        promise = 2;
        ShotBook book = new ShotBook();
        due("day -1", book.scene(-1, 0), NUMBER);
        due("day 100", book.scene(100, 0), NUMBER);
        due("place -1", book.scene(0, -1), NUMBER);
        due("place 100", book.scene(0, 100), NUMBER);
        due("least ints", book.scene(LEAST, LEAST), NUMBER);
        due("greatest ints", book.scene(MOST, MOST), NUMBER);
        due("refused ones change nothing", book.many(0), 0);
        due("lowest", book.scene(0, 0), 0);
        due("highest", book.scene(99, 99), 1);
        due("the same again", book.scene(99, 99), 2);
        due("fourth", book.scene(3, 4), 3);
        due("day told", book.of(3, 0), 3);
        due("place told", book.of(3, 1), 4);
        due("none chosen", book.of(3, 3), NONE);
        due("fifth", book.scene(1, 1), 4);
        due("sixth", book.scene(1, 1), 5);
        due("seventh", book.scene(1, 1), FULL);
        due("NUMBER is named before FULL", book.scene(100, 1), NUMBER);
        due("six", book.many(0), 6);
    }

    private void shift() {
        promise = 3;
        ShotBook book = Books.withDays(1, 2);
        due("a new day", book.shift(0, 99, 98), 1);
        due("day", book.of(0, 0), 99);
        due("place", book.of(0, 1), 98);
        due("the other one stays", book.of(1, 0), 2);
        due("ahead", book.ahead(0, 1), 2);
        due("to 0", book.shift(1, 0, 0), 1);
        due("no such scene", book.shift(2, 0, 0), NUMBER);
        due("scene -1", book.shift(-1, 0, 0), NUMBER);
        due("least scene", book.shift(LEAST, 0, 0), NUMBER);
        due("day -1", book.shift(0, -1, 0), NUMBER);
        due("day 100", book.shift(0, 100, 0), NUMBER);
        due("place -1", book.shift(0, 0, -1), NUMBER);
        due("place 100", book.shift(0, 0, 100), NUMBER);
        due("refused, day stays", book.of(0, 0), 99);
        due("refused, place stays", book.of(0, 1), 98);
    }

    private void thing() {
        promise = 4;
        ShotBook book = new ShotBook();
        due("law -1", book.thing(-1, 0, 1), NUMBER);
        due("law 4", book.thing(4, 0, 1), NUMBER);
        due("law 4 with a rate", book.thing(4, 1, 1), NUMBER);
        due("healing without a rate", book.thing(HEALING, 0, 1), NUMBER);
        due("healing, rate 10", book.thing(HEALING, 10, 1), NUMBER);
        due("healing, rate -1", book.thing(HEALING, -1, 1), NUMBER);
        due("steady with a rate", book.thing(STEADY, 1, 1), NUMBER);
        due("waning with a rate", book.thing(WANING, 1, 1), NUMBER);
        due("growing with a rate", book.thing(GROWING, 9, 1), NUMBER);
        due("steady, rate -1", book.thing(STEADY, -1, 1), NUMBER);
        due("loud 0", book.thing(STEADY, 0, 0), NUMBER);
        due("loud 10", book.thing(STEADY, 0, 10), NUMBER);
        due("refused ones change nothing", book.many(1), 0);
        due("steady", book.thing(STEADY, 0, 1), 0);
        due("waning", book.thing(WANING, 0, 9), 1);
        due("growing", book.thing(GROWING, 0, 5), 2);
        due("healing 1", book.thing(HEALING, 1, 5), 3);
        due("healing 9", book.thing(HEALING, 9, 5), 4);
        due("sixth", book.thing(STEADY, 0, 5), 5);
        due("seventh", book.thing(STEADY, 0, 5), FULL);
        due("NUMBER is named before FULL", book.thing(STEADY, 0, 0), NUMBER);
        due("six", book.many(1), 6);
    }

    private void loud() {
        promise = 5;
        ShotBook book = Books.chosenShow(STEADY, 0, new int[] {1, 1}, 3, 4);
        due("1 becomes 9", book.loud(0, 9), 1);
        due("9 becomes 4", book.loud(0, 4), 9);
        due("noise follows", book.noise(0, 1), 4);
        due("v 0", book.loud(0, 0), NUMBER);
        due("v 10", book.loud(0, 10), NUMBER);
        due("no such thing", book.loud(1, 1), NUMBER);
        due("thing -1", book.loud(-1, 1), NUMBER);
        due("refused, it stays", book.thingOf(0, 2), 4);
    }

    private void take() {
        promise = 6;
        ShotBook book = Books.withDays(1, 1, 1, 1, 1);
        book.thing(STEADY, 0, 1);
        due("no such scene", book.take(5, 0), NUMBER);
        due("scene -1", book.take(-1, 0), NUMBER);
        due("flaw -1", book.take(0, -1), NUMBER);
        due("flaw 21", book.take(0, 21), NUMBER);
        due("refused ones change nothing", book.many(2), 0);
        due("flaw 20", book.take(0, 20), 0);
        due("flaw 0", book.take(1, 0), 1);
        due("it shows nothing", book.told(1, 2), 0);
        due("the thing isn't shown", book.told(1, 10), NONE);
        for (int i = 2; i < 5; i++) {
            due("more of scene 0", book.take(0, i), i);
        }
        due("a fifth of scene 0", book.take(0, 0), FULL);
        due("NUMBER is named before FULL", book.take(0, 21), NUMBER);
        for (int i = 5; i < 8; i++) {
            due("more of scene 1", book.take(1, 0), i);
        }
        for (int i = 8; i < 16; i++) {
            due("of scenes 2 and 3", book.take(2 + i % 2, 0), i);
        }
        due("a seventeenth", book.take(4, 0), FULL);
        due("sixteen", book.many(2), 16);
        due("none of scene 4", book.of(4, 2), 0);
    }

    private void show() {
        promise = 7;
        ShotBook book = Books.withDays(1, 1);
        book.take(0, 0);
        book.take(0, 0);
        due("no such thing yet", book.show(0, 0, 1), FIVE);
        book.thing(STEADY, 0, 1);
        book.thing(STEADY, 0, 1);
        due("it wasn't shown", book.show(0, 1, 0), -1);
        due("it was 0", book.show(0, 1, 99), 0);
        due("it was 99", book.show(0, 1, 7), 99);
        due("the other thing isn't shown", book.told(0, 10), NONE);
        due("the other take doesn't show it", book.told(1, 11), NONE);
        due("v -2", book.show(0, 1, -2), FIVE);
        due("v 100", book.show(0, 1, 100), FIVE);
        due("no such take", book.show(2, 1, 1), FIVE);
        due("take -1", book.show(-1, 1, 1), FIVE);
        due("no such thing", book.show(0, 2, 1), FIVE);
        due("thing -1", book.show(0, -1, 1), FIVE);
        due("refused, it stays", book.show(0, 1, -1), 7);
        due("no longer shown", book.told(0, 11), NONE);
        due("not shown again", book.show(0, 1, -1), -1);
    }

    private void like() {
        promise = 8;
        ShotBook book = Books.withDays(1);
        for (int t = 0; t < 5; t++) {
            book.thing(STEADY, 0, 1);
        }
        book.take(0, 0);
        book.take(0, 3);
        book.show(0, 0, 5); // otherwise
        book.show(1, 0, 6);
        book.show(0, 1, 5); // alike
        book.show(1, 1, 5);
        book.show(0, 2, 5); // shown here alone
        book.show(1, 3, 0); // shown there alone
        due("otherwise, here alone, there alone", book.like(0, 1), 3);
        due("otherwise", book.told(0, 10), 6);
        due("alike", book.told(0, 11), 5);
        due("here alone", book.told(0, 12), NONE);
        due("there alone", book.told(0, 13), 0);
        due("neither", book.told(0, 14), NONE);
        due("the flaw stays", book.told(0, 1), 0);
        due("the other one stays", book.told(1, 10), 6);
        due("again", book.like(0, 1), 0);
        due("itself", book.like(1, 1), 0);
        due("itself still shows", book.told(1, 2), 3);
        due("no such take", book.like(2, 0), NUMBER);
        due("no such other", book.like(0, 2), NUMBER);
        due("take -1", book.like(-1, 0), NUMBER);
        due("other -1", book.like(0, -1), NUMBER);
    }

    private void of() {
        promise = 9;
        ShotBook book = new ShotBook();
        book.scene(7, 8);
        book.scene(9, 10);
        book.take(1, 0);
        book.take(0, 0);
        book.take(1, 0);
        due("day", book.of(1, 0), 9);
        due("place", book.of(1, 1), 10);
        due("takes", book.of(1, 2), 2);
        due("none chosen", book.of(1, 3), NONE);
        book.choose(1, 0);
        due("take 0 chosen", book.of(1, 3), 0);
        book.choose(1, 2);
        due("take 2 chosen", book.of(1, 3), 2);
        due("what 4", book.of(1, 4), NUMBER);
        due("what -1", book.of(1, -1), NUMBER);
        due("no such scene", book.of(2, 0), NUMBER);
        due("scene -1", book.of(-1, 3), NUMBER);
    }

    private void told() {
        promise = 10;
        ShotBook book = Books.withDays(1, 2);
        book.thing(STEADY, 0, 1);
        book.thing(WANING, 0, 1);
        book.take(0, 1);
        book.take(1, 17);
        book.show(1, 1, 33);
        due("scene", book.told(1, 0), 1);
        due("flaw", book.told(1, 1), 17);
        due("things", book.told(1, 2), 1);
        due("not shown", book.told(1, 10), NONE);
        due("shown", book.told(1, 11), 33);
        due("a thing that isn't", book.told(1, 12), NUMBER);
        due("a thing that can't be", book.told(1, 16), NUMBER);
        due("what 3", book.told(1, 3), NUMBER);
        due("what 9", book.told(1, 9), NUMBER);
        due("what -1", book.told(1, -1), NUMBER);
        due("least what", book.told(1, LEAST), NUMBER);
        due("greatest what", book.told(1, MOST), NUMBER);
        due("no such take", book.told(2, 0), NUMBER);
        due("take -1", book.told(-1, 0), NUMBER);
        book.show(1, 0, 0);
        due("both things", book.told(1, 2), 2);
        due("measure 0", book.told(1, 10), 0);
    }

    private void thingOf() {
        promise = 11;
        ShotBook book = Books.withDays(1);
        book.thing(GROWING, 0, 6);
        book.thing(HEALING, 4, 7);
        book.take(0, 0);
        book.take(0, 0);
        book.take(0, 0);
        book.show(0, 1, 0);
        book.show(2, 1, 9);
        due("law", book.thingOf(1, 0), HEALING);
        due("rate", book.thingOf(1, 1), 4);
        due("loud", book.thingOf(1, 2), 7);
        due("takes", book.thingOf(1, 3), 2);
        due("law", book.thingOf(0, 0), GROWING);
        due("rate", book.thingOf(0, 1), 0);
        due("loud", book.thingOf(0, 2), 6);
        due("no takes", book.thingOf(0, 3), 0);
        due("what 4", book.thingOf(1, 4), NUMBER);
        due("what -1", book.thingOf(1, -1), NUMBER);
        due("no such thing", book.thingOf(2, 0), NUMBER);
        due("thing -1", book.thingOf(-1, 0), NUMBER);
    }

    private void ahead() {
        promise = 12;
        ShotBook book = new ShotBook();
        book.scene(1, 9);
        book.scene(2, 0);
        book.scene(2, 1);
        book.scene(2, 1);
        due("by day, whatever the place", book.ahead(0, 1), 1);
        due("the other way", book.ahead(1, 0), 2);
        due("by place", book.ahead(1, 2), 1);
        due("by place, the other way", book.ahead(2, 1), 2);
        due("the same", book.ahead(2, 3), 0);
        due("itself", book.ahead(2, 2), 0);
        due("no such scene", book.ahead(4, 0), NUMBER);
        due("no such other", book.ahead(0, 4), NUMBER);
        due("scene -1", book.ahead(-1, 0), NUMBER);
        due("other -1", book.ahead(0, -1), NUMBER);
    }

    private void clash() {
        promise = 13;
        ShotBook book = new ShotBook();
        book.scene(5, 1); // takes 0 and 1
        book.scene(5, 2); // take 2
        book.scene(6, 0); // take 3
        book.scene(5, 1); // take 4, neither ahead of scene 0
        for (int law = STEADY; law <= GROWING; law++) {
            book.thing(law, 0, 1);
        }
        int[] scenes = {0, 0, 1, 2, 3};
        int[] measures = {50, 40, 40, 60, 40};
        for (int t = 0; t < scenes.length; t++) {
            book.take(scenes[t], 0);
            for (int thing = STEADY; thing <= GROWING; thing++) {
                book.show(t, thing, measures[t]);
            }
        }
        due("steady, one day, unlike", book.clash(0, 2, STEADY), 1);
        due("steady, one day, alike", book.clash(1, 2, STEADY), 0);
        due("steady, two days", book.clash(0, 3, STEADY), 0);
        due("steady, neither ahead", book.clash(0, 4, STEADY), 1);
        due("steady, one scene", book.clash(0, 1, STEADY), 0);
        due("steady, one take", book.clash(0, 0, STEADY), 0);
        due("waning, less", book.clash(0, 2, WANING), 0);
        due("waning, less, the other way", book.clash(2, 0, WANING), 0);
        due("waning, alike", book.clash(1, 2, WANING), 0);
        due("waning, more", book.clash(0, 3, WANING), 1);
        due("waning, more, the other way", book.clash(3, 0, WANING), 1);
        due("waning, neither ahead", book.clash(0, 4, WANING), 0);
        due("growing, less", book.clash(0, 2, GROWING), 1);
        due("growing, less, the other way", book.clash(2, 0, GROWING), 1);
        due("growing, alike", book.clash(1, 2, GROWING), 0);
        due("growing, more", book.clash(0, 3, GROWING), 0);
        due("growing, neither ahead", book.clash(4, 0, GROWING), 0);
        due("growing, one scene", book.clash(0, 1, GROWING), 0);
        book.show(2, STEADY, -1);
        due("one doesn't show it", book.clash(0, 2, STEADY), 0);
        due("the other way", book.clash(2, 0, STEADY), 0);
        due("no such take", book.clash(5, 0, 0), NUMBER);
        due("no such other", book.clash(0, 5, 0), NUMBER);
        due("no such thing", book.clash(0, 2, 3), NUMBER);
        due("take -1", book.clash(-1, 0, 0), NUMBER);
        due("other -1", book.clash(0, -1, 0), NUMBER);
        due("thing -1", book.clash(0, 2, -1), NUMBER);
    }

    private void clashOfHealing() {
        ShotBook book = new ShotBook();
        book.scene(2, 5);
        book.scene(5, 0);
        book.scene(2, 6);
        book.thing(HEALING, 4, 1);
        for (int s = 0; s < 3; s++) {
            book.take(s, 0);
        }
        book.show(0, 0, 20);
        book.show(1, 0, 8);
        due("20 less 12", book.clash(0, 1, 0), 0);
        due("the other way", book.clash(1, 0, 0), 0);
        book.show(1, 0, 9);
        due("one too many", book.clash(0, 1, 0), 1);
        book.show(1, 0, 7);
        due("one too few", book.clash(1, 0, 0), 1);
        book.show(0, 0, 11);
        book.show(1, 0, 0);
        due("below 0 is 0", book.clash(0, 1, 0), 0);
        book.show(1, 0, 1);
        due("below 0 isn't 1", book.clash(0, 1, 0), 1);
        book.show(2, 0, 11);
        due("no day between", book.clash(0, 2, 0), 0);
        book.show(2, 0, 10);
        due("no day between, less", book.clash(0, 2, 0), 1);
        book.shift(2, 2, 5);
        due("neither ahead", book.clash(0, 2, 0), 0);
        book.shift(1, 99, 0);
        book.shift(0, 0, 0);
        book.show(0, 0, 99);
        book.show(1, 0, 0);
        due("the most days", book.clash(0, 1, 0), 0);
    }

    private void noise() {
        promise = 14;
        ShotBook book = Books.withDays(1, 1, 2);
        book.thing(STEADY, 0, 2);
        book.thing(STEADY, 0, 3);
        book.thing(STEADY, 0, 4);
        for (int s = 0; s < 3; s++) {
            book.take(s, 0);
            book.show(s, 0, s);
            book.show(s, 1, 5);
            book.show(s, 2, s);
        }
        book.take(0, 0);
        book.show(3, 0, 9);
        due("two of three things", book.noise(0, 1), 6);
        due("the other way", book.noise(1, 0), 6);
        due("two days", book.noise(0, 2), 0);
        due("one scene", book.noise(0, 3), 0);
        due("itself", book.noise(0, 0), 0);
        due("no such take", book.noise(4, 0), NUMBER);
        due("no such other", book.noise(0, 4), NUMBER);
        due("take -1", book.noise(-1, 0), NUMBER);
        due("other -1", book.noise(0, -1), NUMBER);
    }

    /** Three scenes of one day, two takes each, of which every cut but {0, 3, 5} and {1, 2, 4} is noisy. */
    private static ShotBook twoWays() {
        ShotBook book = Books.withDays(1, 1, 1);
        book.thing(STEADY, 0, 5);
        int[] scenes = {0, 0, 1, 1, 2, 2};
        int[] flaws = {3, 0, 1, 0, 1, 0};
        int[] measures = {10, 20, 20, 10, 20, 10};
        for (int t = 0; t < scenes.length; t++) {
            book.take(scenes[t], flaws[t]);
            book.show(t, 0, measures[t]);
        }
        return book;
    }

    private void cost() {
        promise = 15;
        ShotBook book = Books.withDays(1, 2);
        due("no takes", book.cost(), 0);
        book.take(1, 20);
        due("one flaw", book.cost(), 20);
        book = twoWays();
        due("flaws 0, 1, 1", book.cost(), 2);
        book.show(2, 0, 10);
        due("flaws 3, 0, 0", book.cost(), 3);
        book.loud(0, 1);
        due("two quiet clashes", book.cost(), 2);
        book.choose(0, 0);
        due("whatever is chosen", book.cost(), 2);
    }

    private void cut() {
        promise = 16;
        ShotBook book = twoWays();
        book.scene(1, 0);
        due("scene 0", book.cut(0), 1);
        due("scene 1", book.cut(1), 2);
        due("scene 2", book.cut(2), 4);
        due("scene without takes", book.cut(3), NONE);
        due("no such scene", book.cut(4), NUMBER);
        due("scene -1", book.cut(-1), NUMBER);
        due("nothing is chosen by it", book.many(3), 0);
        // Alike in cost: {0, 3} and {1, 2}; the first scene decides, not the sum or the last one.
        book = Books.withDays(1, 1);
        book.thing(STEADY, 0, 5);
        for (int t = 0; t < 4; t++) {
            book.take(t / 2, 0);
            book.show(t, 0, t == 0 || t == 3 ? 1 : 2);
        }
        due("the lesser one of the first scene", book.cut(0), 0);
        due("what goes with it", book.cut(1), 3);
        // Takes that come crosswise: scene 1 has the lesser numbers.
        book = Books.withDays(1, 1);
        book.take(1, 4);
        book.take(0, 4);
        book.take(1, 4);
        book.take(0, 4);
        due("the least of scene 0", book.cut(0), 1);
        due("the least of scene 1", book.cut(1), 0);
        book.take(0, 3);
        due("a better one of scene 0", book.cut(0), 4);
        due("cost", book.cost(), 7);
    }

    private void choose() {
        promise = 17;
        ShotBook book = Books.withDays(1, 2);
        book.take(0, 0);
        book.take(1, 0);
        book.take(0, 0);
        due("none was", book.choose(0, 0), -1);
        due("take 0 was", book.choose(0, 2), 0);
        due("a take of another scene", book.choose(0, 1), OTHER);
        due("no such take", book.choose(0, 3), FIVE);
        due("take -2", book.choose(0, -2), FIVE);
        due("no such scene", book.choose(2, 0), FIVE);
        due("no such scene, none", book.choose(2, -1), FIVE);
        due("scene -1", book.choose(-1, 0), FIVE);
        due("refused, it stays", book.of(0, 3), 2);
        due("of the other scene none", book.of(1, 3), NONE);
        due("none from now on", book.choose(0, -1), 2);
        due("none", book.of(0, 3), NONE);
        due("none again", book.choose(0, -1), -1);
    }

    private void adopt() {
        promise = 18;
        ShotBook book = twoWays();
        book.scene(1, 0);
        book.choose(0, 1);
        book.choose(1, 3);
        due("new for scenes 1 and 2", book.adopt(), 2);
        due("scene 0", book.of(0, 3), 1);
        due("scene 1", book.of(1, 3), 2);
        due("scene 2", book.of(2, 3), 4);
        due("scene without takes", book.of(3, 3), NONE);
        due("nothing new", book.adopt(), 0);
        due("cost", book.chosen(), book.cost());
        book.choose(1, -1);
        due("new for scene 1", book.adopt(), 1);
        book.choose(0, 0);
        due("new for scene 0", book.adopt(), 1);
        due("scene 0 again", book.of(0, 3), 1);
    }

    private void chosen() {
        promise = 19;
        ShotBook book = twoWays();
        due("none", book.chosen(), 0);
        book.choose(0, 0);
        due("a flaw", book.chosen(), 3);
        book.choose(1, 2);
        due("two flaws and a clash", book.chosen(), 9);
        book.choose(2, 4);
        due("three flaws and two clashes", book.chosen(), 15);
        book.choose(0, 1);
        due("the best cut", book.chosen(), 2);
        book.choose(1, -1);
        due("two of it", book.chosen(), 1);
    }

    private void dueSpan(ShotBook book, int scene, int low, int high) {
        due("least of scene " + scene, book.span(scene, 0, 0), low);
        due("greatest of scene " + scene, book.span(scene, 0, 1), high);
        due("how many of scene " + scene, book.span(scene, 0, 2), low < 0 ? 0 : high - low + 1);
    }

    private void span() {
        promise = 20;
        ShotBook book = Books.chosenShow(STEADY, 0, new int[] {1, 1, 2, 1}, 40, -1, 50);
        dueSpan(book, 0, 0, 99);
        dueSpan(book, 1, 40, 40);
        dueSpan(book, 2, 0, 99);
        book.shift(2, 1, 0);
        dueSpan(book, 0, 50, 50);
        dueSpan(book, 1, NONE, NONE);
        dueSpan(book, 3, NONE, NONE);
        book.choose(2, -1);
        dueSpan(book, 1, 40, 40);
        due("what 3", book.span(0, 0, 3), NUMBER);
        due("what -1", book.span(0, 0, -1), NUMBER);
        due("no such scene", book.span(4, 0, 0), NUMBER);
        due("scene -1", book.span(-1, 0, 0), NUMBER);
        due("no such thing", book.span(0, 1, 0), NUMBER);
        due("thing -1", book.span(0, -1, 0), NUMBER);
        book = Books.chosenShow(WANING, 0, new int[] {1, 3, 5, 3, 0, 9}, 60, 50, 20);
        dueSpan(book, 0, 50, 99);
        dueSpan(book, 1, 20, 60);
        dueSpan(book, 2, 0, 50);
        dueSpan(book, 3, 20, 60);
        dueSpan(book, 4, 60, 99);
        dueSpan(book, 5, 0, 20);
        book = Books.chosenShow(GROWING, 0, new int[] {1, 3, 5, 3, 0, 9}, 20, 50, 60);
        dueSpan(book, 0, 0, 50);
        dueSpan(book, 1, 20, 60);
        dueSpan(book, 2, 50, 99);
        dueSpan(book, 3, 20, 60);
        dueSpan(book, 4, 0, 20);
        dueSpan(book, 5, 60, 99);
        book.show(0, 0, 70);
        dueSpan(book, 1, NONE, NONE);
    }

    private void spanOfHealing() {
        ShotBook book = Books.chosenShow(HEALING, 5, new int[] {0, 2, 4}, -1, 30);
        dueSpan(book, 0, 40, 40);
        dueSpan(book, 2, 20, 20);
        book.show(1, 0, 10);
        dueSpan(book, 2, 0, 0);
        book.show(1, 0, 9);
        dueSpan(book, 2, 0, 0);
        book.show(1, 0, 1);
        dueSpan(book, 0, 11, 11);
        book.show(1, 0, 0);
        dueSpan(book, 0, 0, 10);
        dueSpan(book, 2, 0, 0);
        book.show(1, 0, 89);
        dueSpan(book, 0, 99, 99);
        book.show(1, 0, 90);
        dueSpan(book, 0, NONE, NONE);
        book.show(1, 0, 0);
        book.shift(1, 90, 0);
        dueSpan(book, 0, 0, 99);
        book.shift(1, 0, 0);
        dueSpan(book, 0, 0, 99);
        book.shift(1, 0, 1);
        dueSpan(book, 0, 0, 0);
    }

    /** A thing that wanes over six days, chosen as 90, 50 and 10 on the first, third and fifth of them. */
    private static ShotBook stairs() {
        return Books.chosenShow(WANING, 0, new int[] {1, 2, 3, 4, 5, 6}, 90, -1, 50, -1, 10);
    }

    private void twin() {
        promise = 21;
        ShotBook book = stairs(); // spans: 50-99, 50-90, 10-90, 10-50, 0-50, 0-10
        due("all, first", book.twin(0, 63, 0), 10);
        due("all, second", book.twin(0, 63, 1), 90);
        due("all, third", book.twin(0, 63, 2), NONE);
        due("i -1", book.twin(0, 63, -1), NONE);
        due("least i", book.twin(0, 63, LEAST), NONE);
        due("greatest i", book.twin(0, 63, MOST), NONE);
        due("no scenes", book.twin(0, 0, 0), NONE);
        due("scene 0", book.twin(0, 1, 0), 99);
        due("scenes 0 and 1", book.twin(0, 3, 0), 90);
        due("scenes 1 to 4", book.twin(0, 30, 0), 50);
        due("no such thing", book.twin(1, 1, 0), NUMBER);
        due("thing -1", book.twin(-1, 1, 0), NUMBER);
        due("a set of more scenes", book.twin(0, 64, 0), NUMBER);
        due("a negative set", book.twin(0, -1, 0), NUMBER);
        due("the least set", book.twin(0, LEAST, 0), NUMBER);
        due("NUMBER is named before NONE", book.twin(0, 64, -1), NUMBER);
        book = Books.chosenShow(GROWING, 0, new int[] {1, 2, 3}, -1, 60);
        due("scene 0 ends below all", book.twin(0, 7, 0), 60);
        due("so one does", book.twin(0, 7, 1), NONE);
        book = Books.chosenShow(STEADY, 0, new int[] {1, 1, 2, 2, 3}, 7, -1, 5, -1);
        due("the lesser comes first", book.twin(0, 10, 0), 5);
        due("the greater is next", book.twin(0, 10, 1), 7);
        book.take(1, 0);
        book.show(4, 0, 8);
        book.choose(1, 4);
        book.scene(1, 0);
        due("an empty span", book.twin(0, 32 + 8, 0), NONE);
        due("without it", book.twin(0, 8, 0), 5);
    }

    private void doubles() {
        promise = 22;
        ShotBook book = stairs();
        due("no scenes", book.doubles(0, 0), 0);
        due("one scene", book.doubles(0, 1), 1);
        due("all", book.doubles(0, 63), 2);
        due("scenes 1 to 4", book.doubles(0, 30), 1);
        due("scenes 0 and 5", book.doubles(0, 33), 2);
        due("no such thing", book.doubles(1, 0), NUMBER);
        due("thing -1", book.doubles(-1, 0), NUMBER);
        due("a set of more scenes", book.doubles(0, 64), NUMBER);
        due("a negative set", book.doubles(0, -1), NUMBER);
        book.show(2, 0, 95);
        due("an empty span", book.doubles(0, 2), NONE);
        due("an empty span among others", book.doubles(0, 63), NONE);
        due("no scenes, still", book.doubles(0, 0), 0);
        book = Books.chosenShow(STEADY, 0, new int[] {1, 2, 3, 1, 2, 3}, 1, 2, 3);
        due("three days, three doubles", book.doubles(0, 56), 3);
        due("with free scenes, three", book.doubles(0, 63), 3);
        due("one free scene with two", book.doubles(0, 1 + 8 + 16), 2);
    }

    private void reshoot() {
        promise = 23;
        ShotBook book = Books.chosenShow(STEADY, 0, new int[] {1, 1, 1, 1}, 5, 5, 6, 5);
        due("the odd one", book.reshoot(), 4);
        book.show(0, 0, 6);
        due("two against two: the least set", book.reshoot(), 5);
        book.show(0, 0, 7);
        due("scenes 0 and 2", book.reshoot(), 5);
        book.choose(2, -1);
        due("scene 0", book.reshoot(), 1);
        book.choose(0, -1);
        due("nothing clashes", book.reshoot(), 0);
        book = Books.chosenShow(GROWING, 0, new int[] {1, 2, 3, 4, 5, 6}, 6, 5, 4, 3, 2, 1);
        due("all but the last", book.reshoot(), 31);
        book = Books.chosenShow(GROWING, 0, new int[] {1, 2, 3}, 10, 20, 5);
        due("one of the last", book.reshoot(), 4);
    }

    private void clashes() {
        promise = 24;
        ShotBook book = Books.chosenShow(GROWING, 0, new int[] {1, 2, 3, 4}, 4, 3, 2);
        book.thing(STEADY, 0, 1);
        due("three pairs", book.clashes(0), 3);
        due("none by the other thing", book.clashes(1), 0);
        book.take(3, 0);
        book.show(3, 0, 1);
        due("a take that isn't chosen", book.clashes(0), 3);
        book.choose(0, -1);
        due("one pair", book.clashes(0), 1);
        due("no such thing", book.clashes(2), NUMBER);
        due("thing -1", book.clashes(-1), NUMBER);
    }

    private void many() {
        promise = 25;
        ShotBook book = Books.chosenShow(STEADY, 0, new int[] {1, 1, 1, 2}, 1, 2);
        book.thing(STEADY, 0, 1);
        book.take(0, 0);
        book.show(2, 0, 3);
        book.show(2, 1, 3);
        book.show(1, 1, 4);
        due("scenes", book.many(0), 4);
        due("things", book.many(1), 2);
        due("takes", book.many(2), 3);
        due("chosen", book.many(3), 2);
        due("pairs, each once, whatever is chosen", book.many(4), 2);
        due("what 5", book.many(5), NUMBER);
        due("what -1", book.many(-1), NUMBER);
    }

    private void keep() {
        promise = 26;
        ShotBook book = Books.withDays(1);
        due("first", book.keep(), 1);
        book.scene(2, 2);
        due("again", book.keep(), 1);
        book.scene(3, 3);
        book.back();
        due("the latest is what is kept", book.many(0), 2);
        ShotBook empty = new ShotBook();
        due("an empty book", empty.keep(), 1);
        empty.scene(1, 1);
        due("can be gone back to", empty.back(), 1);
        due("and is empty", empty.many(0), 0);
    }

    private void back() {
        promise = 27;
        ShotBook book = Books.withDays(1, 1);
        due("nothing is kept", book.back(), NONE);
        due("refused, all stays", book.many(0), 2);
        book.thing(HEALING, 2, 3);
        book.take(0, 4);
        book.show(0, 0, 55);
        book.choose(0, 0);
        book.keep();
        changeAll(book);
        due("back", book.back(), 1);
        dueAsKept(book);
        changeAll(book);
        due("it stays kept", book.back(), 1);
        dueAsKept(book);
        due("a scene anew", book.scene(3, 3), 2);
        due("has none chosen", book.of(2, 3), NONE);
        due("a thing anew", book.thing(STEADY, 0, 1), 1);
        due("isn't shown", book.told(0, 11), NONE);
        due("a take anew", book.take(2, 1), 1);
        due("shows nothing", book.told(1, 2), 0);
    }

    private static void changeAll(ShotBook book) {
        book.shift(0, 8, 9);
        book.scene(4, 4);
        book.thing(WANING, 0, 9);
        book.loud(0, 9);
        book.show(0, 0, 66);
        book.show(0, 1, 77);
        book.take(2, 20);
        book.show(1, 0, 5);
        book.choose(2, 1);
        book.choose(0, -1);
    }

    private void dueAsKept(ShotBook book) {
        due("scenes", book.many(0), 2);
        due("things", book.many(1), 1);
        due("takes", book.many(2), 1);
        due("chosen", book.of(0, 3), 0);
        due("day", book.of(0, 0), 1);
        due("place", book.of(0, 1), 0);
        due("law", book.thingOf(0, 0), HEALING);
        due("rate", book.thingOf(0, 1), 2);
        due("loud", book.thingOf(0, 2), 3);
        due("flaw", book.told(0, 1), 4);
        due("measure", book.told(0, 10), 55);
    }
}
