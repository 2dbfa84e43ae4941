import java.util.Arrays;

/** A book of shots for a film that is taken out of order. */
public final class ShotBook {
    public static final int NUMBER = -1;
    public static final int FULL = -2;
    public static final int OTHER = -3;
    public static final int NONE = -4;

    // show() and choose() answer -1 as "it was none", so their NUMBER is another number.
    private static final int NUMBER_WHERE_NOTHING_IS_AN_ANSWER = -5;
    private static final int NOTHING = -1;

    private static final int MOST_SCENES = 6;
    private static final int MOST_THINGS = 6;
    private static final int MOST_TAKES = 16;
    private static final int MOST_TAKES_OF_A_SCENE = 4;
    private static final int MOST_MEASURE = 99;
    private static final int MOST_DAY = 99;
    private static final int MOST_PLACE = 99;
    private static final int MOST_FLAW = 20;
    private static final int MOST_LOUD = 9;
    private static final int MOST_RATE = 9;

    private static final int STEADY = 0;
    private static final int WANING = 1;
    private static final int GROWING = 2;
    private static final int HEALING = 3;

    private static final int NEITHER_AHEAD = 0;
    private static final int FIRST_AHEAD = 1;
    private static final int OTHER_AHEAD = 2;

    private static final int FIRST_MEASURE_ASKED = 10;
    // Six FLAWS and the NOISE of fifteen pairs come to 930 at most.
    private static final int ABOVE_ANY_COST = 1000000;

    private final Story now = new Story();
    private final Story kept = new Story();
    private boolean hasKept = false;
    private final BestCut bestCut = new BestCut();
    private final Spans spans = new Spans();
    private final Quarrels quarrels = new Quarrels();

    public ShotBook() {
    }

    // ---- what is told

    public int scene(int day, int place) {
        if (!isDayAndPlace(day, place)) {
            return NUMBER;
        }
        if (now.sceneCount >= MOST_SCENES) {
            return FULL;
        }
        return now.addScene(day, place);
    }

    public int shift(int scene, int day, int place) {
        if (!now.isScene(scene) || !isDayAndPlace(day, place)) {
            return NUMBER;
        }
        now.dayOf[scene] = day;
        now.placeOf[scene] = place;
        return 1;
    }

    public int thing(int law, int rate, int loud) {
        if (!isLawWithRate(law, rate) || !isBetween(loud, 1, MOST_LOUD)) {
            return NUMBER;
        }
        if (now.thingCount >= MOST_THINGS) {
            return FULL;
        }
        return now.addThing(law, rate, loud);
    }

    public int loud(int thing, int v) {
        if (!now.isThing(thing) || !isBetween(v, 1, MOST_LOUD)) {
            return NUMBER;
        }
        int before = now.loudnessOf[thing];
        now.loudnessOf[thing] = v;
        return before;
    }

    public int take(int scene, int flaw) {
        if (!now.isScene(scene) || !isBetween(flaw, 0, MOST_FLAW)) {
            return NUMBER;
        }
        if (now.takeCount >= MOST_TAKES || now.countTakesOf(scene) >= MOST_TAKES_OF_A_SCENE) {
            return FULL;
        }
        return now.addTake(scene, flaw);
    }

    public int show(int take, int thing, int v) {
        if (!now.isTake(take) || !now.isThing(thing) || !isBetween(v, NOTHING, MOST_MEASURE)) {
            return NUMBER_WHERE_NOTHING_IS_AN_ANSWER;
        }
        int before = now.measureOf(take, thing);
        now.setMeasure(take, thing, v);
        return before;
    }

    public int like(int take, int other) {
        if (!now.isTake(take) || !now.isTake(other)) {
            return NUMBER;
        }
        return now.copyMeasures(other, take);
    }

    public int of(int scene, int what) {
        if (!now.isScene(scene)) {
            return NUMBER;
        }
        switch (what) {
            case 0:
                return now.dayOf[scene];
            case 1:
                return now.placeOf[scene];
            case 2:
                return now.countTakesOf(scene);
            case 3:
                return orNone(now.chosenOf[scene]);
            default:
                return NUMBER;
        }
    }

    public int told(int take, int what) {
        if (!now.isTake(take)) {
            return NUMBER;
        }
        switch (what) {
            case 0:
                return now.sceneOf[take];
            case 1:
                return now.flawOf[take];
            case 2:
                return now.countThingsShownBy(take);
            default:
                return measureAsked(take, what);
        }
    }

    public int thingOf(int thing, int what) {
        if (!now.isThing(thing)) {
            return NUMBER;
        }
        switch (what) {
            case 0:
                return now.lawOf[thing];
            case 1:
                return now.rateOf[thing];
            case 2:
                return now.loudnessOf[thing];
            case 3:
                return now.countTakesThatShow(thing);
            default:
                return NUMBER;
        }
    }

    public int ahead(int scene, int other) {
        if (!now.isScene(scene) || !now.isScene(other)) {
            return NUMBER;
        }
        return now.orderOf(scene, other);
    }

    // ---- clashes and cuts

    public int clash(int take, int other, int thing) {
        if (!now.isTake(take) || !now.isTake(other) || !now.isThing(thing)) {
            return NUMBER;
        }
        return now.doClash(take, other, thing) ? 1 : 0;
    }

    public int noise(int take, int other) {
        if (!now.isTake(take) || !now.isTake(other)) {
            return NUMBER;
        }
        return now.noiseOf(take, other);
    }

    public int cost() {
        bestCut.find(now);
        return bestCut.leastCost;
    }

    public int cut(int scene) {
        if (!now.isScene(scene)) {
            return NUMBER;
        }
        bestCut.find(now);
        return orNone(bestCut.takeFor[scene]);
    }

    public int choose(int scene, int take) {
        boolean isTakeOrNothing = take == NOTHING || now.isTake(take);
        if (!now.isScene(scene) || !isTakeOrNothing) {
            return NUMBER_WHERE_NOTHING_IS_AN_ANSWER;
        }
        if (take != NOTHING && now.sceneOf[take] != scene) {
            return OTHER;
        }
        int before = now.chosenOf[scene];
        now.chosenOf[scene] = take;
        return before;
    }

    public int adopt() {
        bestCut.find(now);
        int changed = 0;
        for (int scene = 0; scene < now.sceneCount; scene++) {
            if (now.chosenOf[scene] != bestCut.takeFor[scene]) {
                changed++;
            }
            now.chosenOf[scene] = bestCut.takeFor[scene];
        }
        return changed;
    }

    public int chosen() {
        return now.costOfChosen();
    }

    // ---- what must be shown

    public int span(int scene, int thing, int what) {
        if (!now.isScene(scene) || !now.isThing(thing) || !isBetween(what, 0, 2)) {
            return NUMBER;
        }
        spans.find(now, scene, thing);
        int size = spans.sizeOf(scene);
        if (what == 2) {
            return size;
        }
        if (size == 0) {
            return NONE;
        }
        return what == 0 ? spans.lowOf[scene] : spans.highOf[scene];
    }

    public int twin(int thing, int scenes, int i) {
        if (!now.isThing(thing) || !now.isSetOfScenes(scenes)) {
            return NUMBER;
        }
        int count = spans.findDoubles(now, thing, scenes);
        // A count of NONE is below 0, so it leaves no i either.
        if (i < 0 || i >= count) {
            return NONE;
        }
        return spans.doublesRow[i];
    }

    public int doubles(int thing, int scenes) {
        if (!now.isThing(thing) || !now.isSetOfScenes(scenes)) {
            return NUMBER;
        }
        return spans.findDoubles(now, thing, scenes);
    }

    public int reshoot() {
        quarrels.find(now);
        return quarrels.leastReshoots(now.sceneCount);
    }

    public int clashes(int thing) {
        if (!now.isThing(thing)) {
            return NUMBER;
        }
        return now.countChosenClashesBy(thing);
    }

    public int many(int what) {
        switch (what) {
            case 0:
                return now.sceneCount;
            case 1:
                return now.thingCount;
            case 2:
                return now.takeCount;
            case 3:
                return now.countScenesWithChosen();
            case 4:
                return now.countNoisyPairs();
            default:
                return NUMBER;
        }
    }

    // ---- kept

    public int keep() {
        kept.becomeLike(now);
        hasKept = true;
        return 1;
    }

    public int back() {
        if (!hasKept) {
            return NONE;
        }
        now.becomeLike(kept);
        return 1;
    }

    private static boolean isBetween(int v, int least, int most) {
        return v >= least && v <= most;
    }

    private static boolean isDayAndPlace(int day, int place) {
        return isBetween(day, 0, MOST_DAY) && isBetween(place, 0, MOST_PLACE);
    }

    private static boolean isLawWithRate(int law, int rate) {
        if (law == HEALING) {
            return isBetween(rate, 1, MOST_RATE);
        }
        return isBetween(law, STEADY, GROWING) && rate == 0;
    }

    private static boolean isIn(int scenes, int scene) {
        return (scenes >> scene & 1) != 0;
    }

    private static int orNone(int v) {
        return v == NOTHING ? NONE : v;
    }

    private int measureAsked(int take, int what) {
        // Looked at first, so that the subtraction can't wrap round.
        if (what < FIRST_MEASURE_ASKED) {
            return NUMBER;
        }
        int thing = what - FIRST_MEASURE_ASKED;
        return now.isThing(thing) ? orNone(now.measureOf(take, thing)) : NUMBER;
    }

    /** All that is told and chosen; what keep() and back() copy. */
    private static final class Story {
        private int sceneCount = 0;
        private final int[] dayOf = new int[MOST_SCENES];
        private final int[] placeOf = new int[MOST_SCENES];
        private final int[] chosenOf = new int[MOST_SCENES];

        private int thingCount = 0;
        private final int[] lawOf = new int[MOST_THINGS];
        private final int[] rateOf = new int[MOST_THINGS];
        private final int[] loudnessOf = new int[MOST_THINGS];

        private int takeCount = 0;
        private final int[] sceneOf = new int[MOST_TAKES];
        private final int[] flawOf = new int[MOST_TAKES];
        private final int[] measures = new int[MOST_TAKES * MOST_THINGS];

        private Story() {
            // Rows of what hasn't come yet always say NOTHING (in what is kept, too), so a new
            // TAKE SHOWS nothing, no TAKE SHOWS a new THING, and a new SCENE has none CHOSEN.
            Arrays.fill(measures, NOTHING);
            Arrays.fill(chosenOf, NOTHING);
        }

        private void becomeLike(Story other) {
            sceneCount = other.sceneCount;
            System.arraycopy(other.dayOf, 0, dayOf, 0, MOST_SCENES);
            System.arraycopy(other.placeOf, 0, placeOf, 0, MOST_SCENES);
            System.arraycopy(other.chosenOf, 0, chosenOf, 0, MOST_SCENES);
            thingCount = other.thingCount;
            System.arraycopy(other.lawOf, 0, lawOf, 0, MOST_THINGS);
            System.arraycopy(other.rateOf, 0, rateOf, 0, MOST_THINGS);
            System.arraycopy(other.loudnessOf, 0, loudnessOf, 0, MOST_THINGS);
            takeCount = other.takeCount;
            System.arraycopy(other.sceneOf, 0, sceneOf, 0, MOST_TAKES);
            System.arraycopy(other.flawOf, 0, flawOf, 0, MOST_TAKES);
            System.arraycopy(other.measures, 0, measures, 0, MOST_TAKES * MOST_THINGS);
        }

        private boolean isScene(int scene) {
            return scene >= 0 && scene < sceneCount;
        }

        private boolean isThing(int thing) {
            return thing >= 0 && thing < thingCount;
        }

        private boolean isTake(int take) {
            return take >= 0 && take < takeCount;
        }

        private boolean isSetOfScenes(int scenes) {
            return scenes >= 0 && scenes < (1 << sceneCount);
        }

        private int addScene(int day, int place) {
            int scene = sceneCount;
            dayOf[scene] = day;
            placeOf[scene] = place;
            sceneCount++;
            return scene;
        }

        private int addThing(int law, int rate, int loudness) {
            int thing = thingCount;
            lawOf[thing] = law;
            rateOf[thing] = rate;
            loudnessOf[thing] = loudness;
            thingCount++;
            return thing;
        }

        private int addTake(int scene, int flaw) {
            int take = takeCount;
            sceneOf[take] = scene;
            flawOf[take] = flaw;
            takeCount++;
            return take;
        }

        private int measureOf(int take, int thing) {
            return measures[take * MOST_THINGS + thing];
        }

        private void setMeasure(int take, int thing, int measure) {
            measures[take * MOST_THINGS + thing] = measure;
        }

        private int copyMeasures(int from, int to) {
            int changed = 0;
            for (int thing = 0; thing < thingCount; thing++) {
                int measure = measureOf(from, thing);
                if (measureOf(to, thing) != measure) {
                    changed++;
                }
                setMeasure(to, thing, measure);
            }
            return changed;
        }

        private int countTakesOf(int scene) {
            int count = 0;
            for (int take = 0; take < takeCount; take++) {
                if (sceneOf[take] == scene) {
                    count++;
                }
            }
            return count;
        }

        private int countThingsShownBy(int take) {
            int count = 0;
            for (int thing = 0; thing < thingCount; thing++) {
                if (measureOf(take, thing) != NOTHING) {
                    count++;
                }
            }
            return count;
        }

        private int countTakesThatShow(int thing) {
            int count = 0;
            for (int take = 0; take < takeCount; take++) {
                if (measureOf(take, thing) != NOTHING) {
                    count++;
                }
            }
            return count;
        }

        private int countScenesWithChosen() {
            int count = 0;
            for (int scene = 0; scene < sceneCount; scene++) {
                if (chosenOf[scene] != NOTHING) {
                    count++;
                }
            }
            return count;
        }

        private int orderOf(int scene, int other) {
            int days = dayOf[scene] - dayOf[other];
            int gap = days != 0 ? days : placeOf[scene] - placeOf[other];
            if (gap == 0) {
                return NEITHER_AHEAD;
            }
            return gap < 0 ? FIRST_AHEAD : OTHER_AHEAD;
        }

        private int healedBetween(int thing, int scene, int later) {
            return rateOf[thing] * (dayOf[later] - dayOf[scene]);
        }

        private boolean doClash(int take, int other, int thing) {
            int scene = sceneOf[take];
            int otherScene = sceneOf[other];
            int measure = measureOf(take, thing);
            int otherMeasure = measureOf(other, thing);
            if (scene == otherScene || measure == NOTHING || otherMeasure == NOTHING) {
                return false;
            }
            if (lawOf[thing] == STEADY) {
                return dayOf[scene] == dayOf[otherScene] && measure != otherMeasure;
            }
            switch (orderOf(scene, otherScene)) {
                case FIRST_AHEAD:
                    return breaksLaw(thing, measure, otherMeasure, healedBetween(thing, scene, otherScene));
                case OTHER_AHEAD:
                    return breaksLaw(thing, otherMeasure, measure, healedBetween(thing, otherScene, scene));
                default:
                    return false;
            }
        }

        private boolean breaksLaw(int thing, int early, int late, int healed) {
            switch (lawOf[thing]) {
                case WANING:
                    return late > early;
                case GROWING:
                    return late < early;
                case HEALING:
                    return late != Math.max(0, early - healed);
                default:
                    return false;
            }
        }

        private int noiseOf(int take, int other) {
            int noise = 0;
            for (int thing = 0; thing < thingCount; thing++) {
                if (doClash(take, other, thing)) {
                    noise += loudnessOf[thing];
                }
            }
            return noise;
        }

        private int countNoisyPairs() {
            int count = 0;
            for (int take = 0; take < takeCount; take++) {
                for (int other = 0; other < take; other++) {
                    // Every THING is LOUD by 1 at least, so a CLASH always makes NOISE.
                    if (noiseOf(take, other) > 0) {
                        count++;
                    }
                }
            }
            return count;
        }

        private boolean areBothChosen(int scene, int other) {
            return chosenOf[scene] != NOTHING && chosenOf[other] != NOTHING;
        }

        private int costOfChosen() {
            int spent = 0;
            for (int scene = 0; scene < sceneCount; scene++) {
                if (chosenOf[scene] != NOTHING) {
                    spent += flawOf[chosenOf[scene]];
                }
                for (int other = 0; other < scene; other++) {
                    spent += chosenNoiseOf(scene, other);
                }
            }
            return spent;
        }

        private int chosenNoiseOf(int scene, int other) {
            return areBothChosen(scene, other) ? noiseOf(chosenOf[scene], chosenOf[other]) : 0;
        }

        private int countChosenClashesBy(int thing) {
            int count = 0;
            for (int scene = 0; scene < sceneCount; scene++) {
                for (int other = 0; other < scene; other++) {
                    if (areBothChosen(scene, other) && doClash(chosenOf[scene], chosenOf[other], thing)) {
                        count++;
                    }
                }
            }
            return count;
        }
    }

    /** Looks for THE BEST CUT of a story. */
    private static final class BestCut {
        private int leastCost = 0;
        private final int[] takeFor = new int[MOST_SCENES];
        private final int[] trial = new int[MOST_SCENES];
        // NOISE is asked for again and again in the search, so it is reckoned once for each two.
        private final int[] noises = new int[MOST_TAKES * MOST_TAKES];

        private void find(Story story) {
            reckonNoises(story);
            leastCost = ABOVE_ANY_COST;
            tryFrom(this, story, 0, 0);
        }

        private void reckonNoises(Story story) {
            for (int take = 0; take < story.takeCount; take++) {
                for (int other = 0; other < take; other++) {
                    int noise = story.noiseOf(take, other);
                    noises[take * MOST_TAKES + other] = noise;
                    noises[other * MOST_TAKES + take] = noise;
                }
            }
        }

        // Lesser TAKES are tried first, so of CUTS that COST the same the first one found stays.
        private static void tryFrom(BestCut cut, Story story, int scene, int spent) {
            if (spent >= cut.leastCost) {
                return;
            }
            if (scene >= story.sceneCount || scene >= MOST_SCENES) {
                cut.leastCost = spent;
                System.arraycopy(cut.trial, 0, cut.takeFor, 0, MOST_SCENES);
                return;
            }
            boolean hasTakes = false;
            for (int take = 0; take < story.takeCount; take++) {
                if (story.sceneOf[take] == scene) {
                    hasTakes = true;
                    cut.trial[scene] = take;
                    tryFrom(cut, story, scene + 1, spent + story.flawOf[take] + cut.noiseWithEarlier(scene, take));
                }
            }
            if (!hasTakes) {
                cut.trial[scene] = NOTHING;
                tryFrom(cut, story, scene + 1, spent);
            }
        }

        private int noiseWithEarlier(int scene, int take) {
            int noise = 0;
            for (int earlier = 0; earlier < scene; earlier++) {
                if (trial[earlier] != NOTHING) {
                    noise += noises[take * MOST_TAKES + trial[earlier]];
                }
            }
            return noise;
        }
    }

    /** Looks for SPANS, and for the DOUBLES that they ask for. */
    private static final class Spans {
        private final int[] lowOf = new int[MOST_SCENES];
        private final int[] highOf = new int[MOST_SCENES];
        private final int[] doublesRow = new int[MOST_SCENES];

        private int sizeOf(int scene) {
            return Math.max(0, highOf[scene] - lowOf[scene] + 1);
        }

        private void find(Story story, int scene, int thing) {
            lowOf[scene] = 0;
            highOf[scene] = MOST_MEASURE;
            for (int other = 0; other < story.sceneCount; other++) {
                int take = story.chosenOf[other];
                if (other != scene && take != NOTHING && story.measureOf(take, thing) != NOTHING) {
                    narrowBy(story, scene, thing, other, story.measureOf(take, thing));
                }
            }
        }

        private void narrowBy(Story story, int scene, int thing, int other, int measure) {
            if (story.lawOf[thing] == STEADY) {
                if (story.dayOf[scene] == story.dayOf[other]) {
                    keepWithin(scene, measure, measure);
                }
                return;
            }
            switch (story.orderOf(other, scene)) {
                case FIRST_AHEAD:
                    narrowAfter(scene, story.lawOf[thing], measure, story.healedBetween(thing, other, scene));
                    break;
                case OTHER_AHEAD:
                    narrowBefore(scene, story.lawOf[thing], measure, story.healedBetween(thing, scene, other));
                    break;
                default:
                    break;
            }
        }

        private void narrowAfter(int scene, int law, int early, int healed) {
            switch (law) {
                case WANING:
                    keepWithin(scene, 0, early);
                    break;
                case GROWING:
                    keepWithin(scene, early, MOST_MEASURE);
                    break;
                case HEALING:
                    keepWithin(scene, Math.max(0, early - healed), Math.max(0, early - healed));
                    break;
                default:
                    break;
            }
        }

        private void narrowBefore(int scene, int law, int late, int healed) {
            switch (law) {
                case WANING:
                    keepWithin(scene, late, MOST_MEASURE);
                    break;
                case GROWING:
                    keepWithin(scene, 0, late);
                    break;
                case HEALING:
                    // What has come to 0 may have come to it earlier than on the last of the days.
                    keepWithin(scene, late == 0 ? 0 : late + healed, late + healed);
                    break;
                default:
                    break;
            }
        }

        private void keepWithin(int scene, int low, int high) {
            lowOf[scene] = Math.max(lowOf[scene], low);
            highOf[scene] = Math.min(highOf[scene], high);
        }

        private int findDoubles(Story story, int thing, int scenes) {
            for (int scene = 0; scene < story.sceneCount; scene++) {
                if (isIn(scenes, scene)) {
                    find(story, scene, thing);
                    if (sizeOf(scene) == 0) {
                        return NONE;
                    }
                }
            }
            return fillDoublesRow(scenes);
        }

        // The first MEASURE can't be above the least end of all SPANS, and this end serves every
        // SPAN that a lesser MEASURE would: so it is taken, and the rest is done likewise.
        private int fillDoublesRow(int scenes) {
            int open = scenes;
            int count = 0;
            while (open != 0 && count < MOST_SCENES) {
                int measure = leastHighOf(open);
                doublesRow[count] = measure;
                count++;
                open = withoutServed(open, measure);
            }
            return count;
        }

        private int leastHighOf(int scenes) {
            int least = MOST_MEASURE;
            for (int scene = 0; scene < MOST_SCENES; scene++) {
                if (isIn(scenes, scene)) {
                    least = Math.min(least, highOf[scene]);
                }
            }
            return least;
        }

        private int withoutServed(int scenes, int measure) {
            int left = scenes;
            for (int scene = 0; scene < MOST_SCENES; scene++) {
                if (isIn(scenes, scene) && lowOf[scene] <= measure) {
                    left &= ~(1 << scene);
                }
            }
            return left;
        }
    }

    /** Looks for the RESHOOTS that end all CLASHES of CHOSEN TAKES. */
    private static final class Quarrels {
        private final int[] foesOf = new int[MOST_SCENES];

        private void find(Story story) {
            for (int scene = 0; scene < story.sceneCount; scene++) {
                foesOf[scene] = 0;
                for (int other = 0; other < story.sceneCount; other++) {
                    if (story.chosenNoiseOf(scene, other) > 0) {
                        foesOf[scene] |= 1 << other;
                    }
                }
            }
        }

        private int leastReshoots(int sceneCount) {
            int all = (1 << sceneCount) - 1;
            int best = all;
            // Sets come in rising order, so of sets of one size the least one stays.
            for (int set = 0; set < all; set++) {
                if (Integer.bitCount(set) < Integer.bitCount(best) && isPeaceful(all & ~set)) {
                    best = set;
                }
            }
            return best;
        }

        private boolean isPeaceful(int scenes) {
            for (int scene = 0; scene < MOST_SCENES; scene++) {
                if (isIn(scenes, scene) && (foesOf[scene] & scenes) != 0) {
                    return false;
                }
            }
            return true;
        }
    }
}
