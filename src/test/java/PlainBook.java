import java.util.ArrayList;
import java.util.Arrays;
import java.util.List;

/**
 * The document said again as plainly as can be, for comparing: it looks at every measure, every
 * cut, every row and every set, where ShotBook takes a shorter way.
 */
final class PlainBook {
    private static final int NUMBER = -1;
    private static final int FULL = -2;
    private static final int OTHER = -3;
    private static final int NONE = -4;
    private static final int FIVE = -5;

    private static final class Scene {
        int day;
        int place;
        Integer chosen;
    }

    private static final class Thing {
        int law;
        int rate;
        int loud;
    }

    private static final class Take {
        int scene;
        int flaw;
        Integer[] shows = new Integer[6];
    }

    private List<Scene> scenes = new ArrayList<>();
    private List<Thing> things = new ArrayList<>();
    private List<Take> takes = new ArrayList<>();
    private PlainBook kept;

    private static boolean in(int v, int from, int to) {
        return from <= v && v <= to;
    }

    private boolean noScene(int s) {
        return !in(s, 0, scenes.size() - 1);
    }

    private boolean noThing(int t) {
        return !in(t, 0, things.size() - 1);
    }

    private boolean noTake(int t) {
        return !in(t, 0, takes.size() - 1);
    }

    int scene(int day, int place) {
        if (!in(day, 0, 99) || !in(place, 0, 99)) return NUMBER;
        if (scenes.size() == 6) return FULL;
        Scene s = new Scene();
        s.day = day;
        s.place = place;
        scenes.add(s);
        return scenes.size() - 1;
    }

    int shift(int scene, int day, int place) {
        if (noScene(scene) || !in(day, 0, 99) || !in(place, 0, 99)) return NUMBER;
        scenes.get(scene).day = day;
        scenes.get(scene).place = place;
        return 1;
    }

    int thing(int law, int rate, int loud) {
        if (!in(law, 0, 3)) return NUMBER;
        if (law == 3 ? !in(rate, 1, 9) : rate != 0) return NUMBER;
        if (!in(loud, 1, 9)) return NUMBER;
        if (things.size() == 6) return FULL;
        Thing t = new Thing();
        t.law = law;
        t.rate = rate;
        t.loud = loud;
        things.add(t);
        return things.size() - 1;
    }

    int loud(int thing, int v) {
        if (noThing(thing) || !in(v, 1, 9)) return NUMBER;
        int was = things.get(thing).loud;
        things.get(thing).loud = v;
        return was;
    }

    private List<Integer> takesOf(int scene) {
        List<Integer> found = new ArrayList<>();
        for (int t = 0; t < takes.size(); t++) if (takes.get(t).scene == scene) found.add(t);
        return found;
    }

    int take(int scene, int flaw) {
        if (noScene(scene) || !in(flaw, 0, 20)) return NUMBER;
        if (takes.size() == 16 || takesOf(scene).size() == 4) return FULL;
        Take t = new Take();
        t.scene = scene;
        t.flaw = flaw;
        takes.add(t);
        return takes.size() - 1;
    }

    int show(int take, int thing, int v) {
        if (noTake(take) || noThing(thing) || !in(v, -1, 99)) return FIVE;
        Integer was = takes.get(take).shows[thing];
        takes.get(take).shows[thing] = v == -1 ? null : Integer.valueOf(v);
        return was == null ? -1 : was;
    }

    int like(int take, int other) {
        if (noTake(take) || noTake(other)) return NUMBER;
        int unlike = 0;
        for (int t = 0; t < things.size(); t++) {
            Integer mine = takes.get(take).shows[t];
            Integer its = takes.get(other).shows[t];
            if (mine == null ? its != null : !mine.equals(its)) unlike++;
            takes.get(take).shows[t] = its;
        }
        return unlike;
    }

    int of(int scene, int what) {
        if (noScene(scene)) return NUMBER;
        Scene s = scenes.get(scene);
        if (what == 0) return s.day;
        if (what == 1) return s.place;
        if (what == 2) return takesOf(scene).size();
        if (what == 3) return s.chosen == null ? NONE : s.chosen;
        return NUMBER;
    }

    int told(int take, int what) {
        if (noTake(take)) return NUMBER;
        Take t = takes.get(take);
        if (what == 0) return t.scene;
        if (what == 1) return t.flaw;
        int shown = 0;
        for (int i = 0; i < things.size(); i++) {
            if (t.shows[i] != null) shown++;
            if (what == 10 + i) return t.shows[i] == null ? NONE : t.shows[i];
        }
        return what == 2 ? shown : NUMBER;
    }

    int thingOf(int thing, int what) {
        if (noThing(thing)) return NUMBER;
        Thing t = things.get(thing);
        if (what == 0) return t.law;
        if (what == 1) return t.rate;
        if (what == 2) return t.loud;
        if (what != 3) return NUMBER;
        int showing = 0;
        for (Take k : takes) if (k.shows[thing] != null) showing++;
        return showing;
    }

    private static boolean isAhead(Scene a, Scene b) {
        return a.day < b.day || (a.day == b.day && a.place < b.place);
    }

    int ahead(int scene, int other) {
        if (noScene(scene) || noScene(other)) return NUMBER;
        if (isAhead(scenes.get(scene), scenes.get(other))) return 1;
        return isAhead(scenes.get(other), scenes.get(scene)) ? 2 : 0;
    }

    /** Whether measure v in one scene and w in another one are against the law of a thing. */
    private boolean against(int thing, int scene, int v, int other, int w) {
        if (scene == other) return false;
        Thing t = things.get(thing);
        Scene a = scenes.get(scene);
        Scene b = scenes.get(other);
        if (t.law == 0) return a.day == b.day && v != w;
        if (isAhead(b, a)) return against(thing, other, w, scene, v);
        if (!isAhead(a, b)) return false;
        if (t.law == 1) return w > v;
        if (t.law == 2) return w < v;
        int healed = v;
        for (int d = a.day; d < b.day; d++) healed -= t.rate;
        return w != (healed < 0 ? 0 : healed);
    }

    private boolean clashing(int a, int b, int thing) {
        Take x = takes.get(a);
        Take y = takes.get(b);
        if (x.shows[thing] == null || y.shows[thing] == null) return false;
        return against(thing, x.scene, x.shows[thing], y.scene, y.shows[thing]);
    }

    int clash(int take, int other, int thing) {
        if (noTake(take) || noTake(other) || noThing(thing)) return NUMBER;
        return clashing(take, other, thing) ? 1 : 0;
    }

    int noise(int take, int other) {
        if (noTake(take) || noTake(other)) return NUMBER;
        int sum = 0;
        for (int t = 0; t < things.size(); t++) if (clashing(take, other, t)) sum += things.get(t).loud;
        return sum;
    }

    private int costOf(List<Integer> some) {
        int sum = 0;
        for (int i = 0; i < some.size(); i++) {
            sum += takes.get(some.get(i)).flaw;
            for (int j = i + 1; j < some.size(); j++) sum += noise(some.get(i), some.get(j));
        }
        return sum;
    }

    private List<List<Integer>> allCuts() {
        List<List<Integer>> cuts = new ArrayList<>();
        cuts.add(new ArrayList<>());
        for (int s = 0; s < scenes.size(); s++) {
            if (takesOf(s).isEmpty()) continue;
            List<List<Integer>> longer = new ArrayList<>();
            for (List<Integer> cut : cuts) {
                for (int t : takesOf(s)) {
                    List<Integer> more = new ArrayList<>(cut);
                    more.add(t);
                    longer.add(more);
                }
            }
            cuts = longer;
        }
        return cuts;
    }

    private static boolean isLesser(List<Integer> a, List<Integer> b) {
        for (int i = 0; i < a.size(); i++) {
            if (!a.get(i).equals(b.get(i))) return a.get(i) < b.get(i);
        }
        return false;
    }

    private List<Integer> bestCut() {
        List<Integer> best = null;
        for (List<Integer> cut : allCuts()) {
            if (best == null || costOf(cut) < costOf(best)
                || (costOf(cut) == costOf(best) && isLesser(cut, best))) best = cut;
        }
        return best;
    }

    private Integer cutFor(List<Integer> cut, int scene) {
        for (int t : cut) if (takes.get(t).scene == scene) return t;
        return null;
    }

    int cost() {
        return costOf(bestCut());
    }

    int cut(int scene) {
        if (noScene(scene)) return NUMBER;
        Integer t = cutFor(bestCut(), scene);
        return t == null ? NONE : t;
    }

    int choose(int scene, int take) {
        if (noScene(scene) || (take != -1 && noTake(take))) return FIVE;
        if (take != -1 && takes.get(take).scene != scene) return OTHER;
        Integer was = scenes.get(scene).chosen;
        scenes.get(scene).chosen = take == -1 ? null : Integer.valueOf(take);
        return was == null ? -1 : was;
    }

    int adopt() {
        List<Integer> cut = bestCut();
        int fresh = 0;
        for (int s = 0; s < scenes.size(); s++) {
            Integer t = cutFor(cut, s);
            Integer was = scenes.get(s).chosen;
            if (t == null ? was != null : !t.equals(was)) fresh++;
            scenes.get(s).chosen = t;
        }
        return fresh;
    }

    private List<Integer> chosenWithout(int set) {
        List<Integer> found = new ArrayList<>();
        for (int s = 0; s < scenes.size(); s++) {
            if ((set >> s & 1) == 0 && scenes.get(s).chosen != null) found.add(scenes.get(s).chosen);
        }
        return found;
    }

    int chosen() {
        return costOf(chosenWithout(0));
    }

    private boolean[] spanOf(int scene, int thing) {
        boolean[] fits = new boolean[100];
        Arrays.fill(fits, true);
        for (int m = 0; m < 100; m++) {
            for (int t : chosenWithout(1 << scene)) {
                Take k = takes.get(t);
                if (k.shows[thing] != null && against(thing, scene, m, k.scene, k.shows[thing])) fits[m] = false;
            }
        }
        return fits;
    }

    int span(int scene, int thing, int what) {
        if (noScene(scene) || noThing(thing) || !in(what, 0, 2)) return NUMBER;
        boolean[] fits = spanOf(scene, thing);
        int least = NONE;
        int greatest = NONE;
        int count = 0;
        for (int m = 0; m < 100; m++) {
            if (!fits[m]) continue;
            if (count == 0) least = m;
            greatest = m;
            count++;
        }
        return what == 0 ? least : what == 1 ? greatest : count;
    }

    /** Whether count measures from a least one on serve a set of scenes. */
    private static boolean canServe(boolean[][] spans, int set, int from, int count, Boolean[][][] known) {
        if (set == 0) return true;
        if (count == 0 || from > 99) return false;
        if (known[set][from][count] == null) {
            known[set][from][count] = canServe(spans, set, from + 1, count, known)
                || canServe(spans, unserved(spans, set, from), from + 1, count - 1, known);
        }
        return known[set][from][count];
    }

    private static int unserved(boolean[][] spans, int set, int measure) {
        int left = set;
        for (int s = 0; s < spans.length; s++) {
            if ((set >> s & 1) == 1 && spans[s][measure]) left -= 1 << s;
        }
        return left;
    }

    /** The row of doubles; null: there are none. */
    private List<Integer> doublesRow(int thing, int set) {
        boolean[][] spans = new boolean[scenes.size()][];
        for (int s = 0; s < scenes.size(); s++) spans[s] = spanOf(s, thing);
        Boolean[][][] known = new Boolean[64][100][7];
        int fewest = 0;
        while (fewest <= 6 && !canServe(spans, set, 0, fewest, known)) fewest++;
        if (fewest > 6) return null;
        List<Integer> row = new ArrayList<>();
        int left = set;
        int from = 0;
        for (int k = fewest; k > 0; k--) {
            int m = 99;
            while (m >= from && !canServe(spans, unserved(spans, left, m), m + 1, k - 1, known)) m--;
            row.add(m);
            left = unserved(spans, left, m);
            from = m + 1;
        }
        return row;
    }

    private boolean noSet(int set) {
        return !in(set, 0, (1 << scenes.size()) - 1);
    }

    int twin(int thing, int set, int i) {
        if (noThing(thing) || noSet(set)) return NUMBER;
        List<Integer> row = doublesRow(thing, set);
        return row == null || !in(i, 0, row.size() - 1) ? NONE : row.get(i);
    }

    int doubles(int thing, int set) {
        if (noThing(thing) || noSet(set)) return NUMBER;
        List<Integer> row = doublesRow(thing, set);
        return row == null ? NONE : row.size();
    }

    private boolean peaceful(List<Integer> some) {
        for (int a : some) {
            for (int b : some) {
                for (int t = 0; t < things.size(); t++) if (clashing(a, b, t)) return false;
            }
        }
        return true;
    }

    int reshoot() {
        for (int size = 0; size <= 6; size++) {
            for (int set = 0; set < 64; set++) {
                if (Integer.bitCount(set) == size && peaceful(chosenWithout(set))) return set;
            }
        }
        return 63;
    }

    int clashes(int thing) {
        if (noThing(thing)) return NUMBER;
        int twice = 0;
        for (int a : chosenWithout(0)) {
            for (int b : chosenWithout(0)) if (clashing(a, b, thing)) twice++;
        }
        return twice / 2;
    }

    int many(int what) {
        if (what == 0) return scenes.size();
        if (what == 1) return things.size();
        if (what == 2) return takes.size();
        if (what == 3) return chosenWithout(0).size();
        if (what != 4) return NUMBER;
        int pairs = 0;
        for (int a = 0; a < takes.size(); a++) {
            for (int b = a + 1; b < takes.size(); b++) if (!peaceful(List.of(a, b))) pairs++;
        }
        return pairs;
    }

    int keep() {
        kept = new PlainBook();
        kept.copy(this);
        return 1;
    }

    int back() {
        if (kept == null) return NONE;
        copy(kept);
        return 1;
    }

    private void copy(PlainBook from) {
        scenes = new ArrayList<>();
        for (Scene s : from.scenes) {
            Scene c = new Scene();
            c.day = s.day;
            c.place = s.place;
            c.chosen = s.chosen;
            scenes.add(c);
        }
        things = new ArrayList<>();
        for (Thing t : from.things) {
            Thing c = new Thing();
            c.law = t.law;
            c.rate = t.rate;
            c.loud = t.loud;
            things.add(c);
        }
        takes = new ArrayList<>();
        for (Take t : from.takes) {
            Take c = new Take();
            c.scene = t.scene;
            c.flaw = t.flaw;
            c.shows = t.shows.clone();
            takes.add(c);
        }
    }
}
