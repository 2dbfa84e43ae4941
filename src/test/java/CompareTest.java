import java.lang.reflect.Method;
import java.util.ArrayList;
import java.util.Arrays;
import java.util.Comparator;
import java.util.List;
import java.util.Random;

/** Long runs of calls drawn from fixed seeds: ShotBook must answer as PlainBook does. */
public final class CompareTest {
    private static final int RUNS = 400;
    private static final int CALLS = 512;
    private static final int[] ODD = {Integer.MIN_VALUE, Integer.MIN_VALUE + 9, -5, -2, -1, 6, 7, 16, 21, 63, 64,
        99, 100, Integer.MAX_VALUE};

    private final Random random;
    private final int days;
    private final int measures;
    private final boolean beginsFull;

    private CompareTest(int seed) {
        random = new Random(seed);
        days = 1 + random.nextInt(seed % 3 == 0 ? 100 : 6);
        measures = 1 + random.nextInt(seed % 2 == 0 ? 100 : 12);
        // Books that come about by chance alone stay nearly empty, and seldom have clashes.
        beginsFull = seed % 4 < 2;
    }

    public static void main(String[] args) throws ReflectiveOperationException {
        Checks checks = new Checks();
        List<Method> face = new ArrayList<>();
        for (Method m : ShotBook.class.getDeclaredMethods()) {
            if (java.lang.reflect.Modifier.isPublic(m.getModifiers())) {
                face.add(m);
            }
        }
        face.sort(Comparator.comparing(Method::getName));
        checks.due("how many calls the face has", face.size(), 26);
        for (int seed = 0; seed < RUNS && checks.allRight(); seed++) {
            new CompareTest(seed).run(face, checks, seed);
        }
        checks.end();
    }

    private void run(List<Method> face, Checks checks, int seed) throws ReflectiveOperationException {
        ShotBook book = new ShotBook();
        PlainBook plain = new PlainBook();
        List<String> trace = new ArrayList<>();
        List<Object[]> opening = beginsFull ? fullBook() : List.of();
        for (int i = 0; i < CALLS && checks.allRight(); i++) {
            boolean opens = i < opening.size();
            Method call = opens ? named(face, (String) opening.get(i)[0]) : nextCall(face, i);
            Object[] arguments = opens ? Arrays.copyOfRange(opening.get(i), 1, opening.get(i).length)
                : argumentsOf(call.getName(), call.getParameterCount());
            int got = (Integer) call.invoke(book, arguments);
            Method same = PlainBook.class.getDeclaredMethod(call.getName(), call.getParameterTypes());
            int want = (Integer) same.invoke(plain, arguments);
            String row = call.getName() + Arrays.toString(arguments);
            checks.due("seed " + seed + ", call " + i + ": " + row, got, want);
            trace.add(row + " " + got);
        }
        if (!checks.allRight()) {
            trace.forEach(System.out::println);
        }
    }

    private static Method named(List<Method> face, String name) {
        for (Method m : face) {
            if (m.getName().equals(name)) {
                return m;
            }
        }
        return face.get(0);
    }

    /** As many scenes, things and takes as may be, most of them shown and chosen; it is kept, so back() finds it. */
    private List<Object[]> fullBook() {
        List<Object[]> calls = new ArrayList<>();
        for (int s = 0; s < 6; s++) {
            calls.add(new Object[] {"scene", usual("scene", 0), usual("scene", 1)});
        }
        for (int t = 0; t < 6; t++) {
            int law = random.nextInt(4);
            calls.add(new Object[] {"thing", law, law == 3 ? 1 + random.nextInt(9) : 0, usual("thing", 2)});
        }
        for (int k = 0; k < 16; k++) {
            calls.add(new Object[] {"take", k % 6, usual("take", 1)});
            for (int t = 0; t < 6; t++) {
                if (random.nextInt(4) != 0) {
                    calls.add(new Object[] {"show", k, t, usual("show", 2)});
                }
            }
        }
        for (int s = 0; s < 6; s++) {
            // Scenes 4 and 5 have two takes each, so their third one is refused: there is none such.
            calls.add(new Object[] {"choose", s, random.nextInt(6) == 0 ? -1 : s + 6 * random.nextInt(3)});
        }
        calls.add(new Object[] {"keep"});
        return calls;
    }

    /** Early calls mostly tell, so that there is much to ask for later; back() is made rare. */
    private Method nextCall(List<Method> face, int i) {
        String wanted = null;
        if (i < 40 && random.nextInt(8) != 0) {
            wanted = new String[] {"scene", "thing", "take", "take"}[random.nextInt(4)];
        } else if (random.nextInt(3) == 0) {
            wanted = new String[] {"show", "show", "show", "shift", "choose"}[random.nextInt(5)];
        }
        Method drawn = face.get(random.nextInt(face.size()));
        if (wanted == null && drawn.getName().equals("back") && random.nextInt(3) != 0) {
            wanted = "doubles";
        }
        return wanted == null ? drawn : named(face, wanted);
    }

    private Object[] argumentsOf(String name, int count) {
        Object[] arguments = new Object[count];
        for (int i = 0; i < count; i++) {
            arguments[i] = random.nextInt(60) == 0 ? ODD[random.nextInt(ODD.length)] : usual(name, i);
        }
        if (name.equals("thing") && random.nextInt(10) != 0 && !arguments[0].equals(3)) {
            arguments[1] = 0;
        }
        return arguments;
    }

    private int usual(String name, int i) {
        switch (name + i) {
            case "scene0": case "shift1": return random.nextInt(days);
            case "scene1": case "shift2": return random.nextInt(4);
            case "thing0": return random.nextInt(4);
            case "thing1": case "thing2": case "loud1": return 1 + random.nextInt(9);
            case "take1": return random.nextInt(random.nextInt(2) == 0 ? 3 : 21);
            case "show0": case "like0": case "like1": case "told0": case "clash0": case "clash1":
            case "noise0": case "noise1": return random.nextInt(17);
            case "show2": return random.nextInt(measures + 1) - 1;
            case "choose1": return random.nextInt(18) - 1;
            case "told1": return random.nextInt(3) == 0 ? random.nextInt(3) : 10 + random.nextInt(7);
            case "of1": case "thingOf1": return random.nextInt(5);
            case "many0": return random.nextInt(6);
            case "span2": return random.nextInt(3);
            case "twin1": case "doubles1": return random.nextInt(64);
            case "twin2": return random.nextInt(5) - 1;
            default: return random.nextInt(7);
        }
    }
}
