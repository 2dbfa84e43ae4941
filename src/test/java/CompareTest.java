import java.lang.reflect.Method;
import java.util.ArrayList;
import java.util.Arrays;
import java.util.Comparator;
import java.util.List;
import java.util.Random;

/** Long runs of calls drawn from fixed seeds: ShotBook must answer as PlainBook does. */
public final class CompareTest {
    private static final int RUNS = 400;
    private static final int CALLS = 512;
    private static final int[] ODD = {Integer.MIN_VALUE, Integer.MIN_VALUE + 9, -5, -2, -1, 6, 7, 16, 21, 63, 64,
        99, 100, Integer.MAX_VALUE};

    private final Random random;
    private final int days;
    private final int measures;

    private CompareTest(int seed) {
        random = new Random(seed);
        days = 1 + random.nextInt(seed % 3 == 0 ? 100 : 6);
        measures = 1 + random.nextInt(seed % 2 == 0 ? 100 : 12);
    }

    public static void main(String[] args) throws ReflectiveOperationException {
        Checks checks = new Checks();
        List<Method> face = new ArrayList<>();
        for (Method m : ShotBook.class.getDeclaredMethods()) {
            if (java.lang.reflect.Modifier.isPublic(m.getModifiers())) {
                face.add(m);
            }
        }
        face.sort(Comparator.comparing(Method::getName));
        checks.due("how many calls the face has", face.size(), 26);
        for (int seed = 0; seed < RUNS && checks.allRight(); seed++) {
            new CompareTest(seed).run(face, checks, seed);
        }
        checks.end();
    }

    private void run(List<Method> face, Checks checks, int seed) throws ReflectiveOperationException {
        ShotBook book = new ShotBook();
        PlainBook plain = new PlainBook();
        List<String> trace = new ArrayList<>();
        for (int i = 0; i < CALLS && checks.allRight(); i++) {
            Method call = nextCall(face, i);
            Object[] arguments = argumentsOf(call.getName(), call.getParameterCount());
            int got = (Integer) call.invoke(book, arguments);
            Method same = PlainBook.class.getDeclaredMethod(call.getName(), call.getParameterTypes());
            int want = (Integer) same.invoke(plain, arguments);
            String row = call.getName() + Arrays.toString(arguments);
            checks.due("seed " + seed + ", call " + i + ": " + row, got, want);
            trace.add(row + " " + got);
        }
        if (!checks.allRight()) {
            trace.forEach(System.out::println);
        }
    }

    /** Early calls mostly tell, so that there is much to ask for later; back() is made rare. */
    private Method nextCall(List<Method> face, int i) {
        String wanted = null;
        if (i < 40 && random.nextInt(8) != 0) {
            wanted = new String[] {"scene", "thing", "take", "take"}[random.nextInt(4)];
        } else if (random.nextInt(3) == 0) {
            wanted = new String[] {"show", "show", "show", "shift", "choose"}[random.nextInt(5)];
        }
        Method drawn = face.get(random.nextInt(face.size()));
        if (wanted == null && drawn.getName().equals("back") && random.nextInt(3) != 0) {
            wanted = "doubles";
        }
        if (wanted != null) {
            for (Method m : face) {
                if (m.getName().equals(wanted)) {
                    return m;
                }
            }
        }
        return drawn;
    }

    private Object[] argumentsOf(String name, int count) {
        Object[] arguments = new Object[count];
        for (int i = 0; i < count; i++) {
            arguments[i] = random.nextInt(60) == 0 ? ODD[random.nextInt(ODD.length)] : usual(name, i);
        }
        if (name.equals("thing") && random.nextInt(10) != 0 && !arguments[0].equals(3)) {
            arguments[1] = 0;
        }
        return arguments;
    }

    private int usual(String name, int i) {
        switch (name + i) {
            case "scene0": case "shift1": return random.nextInt(days);
            case "scene1": case "shift2": return random.nextInt(4);
            case "thing0": return random.nextInt(4);
            case "thing1": case "thing2": case "loud1": return 1 + random.nextInt(9);
            case "take1": return random.nextInt(random.nextInt(2) == 0 ? 3 : 21);
            case "show0": case "like0": case "like1": case "told0": case "clash0": case "clash1":
            case "noise0": case "noise1": return random.nextInt(17);
            case "show2": return random.nextInt(measures + 1) - 1;
            case "choose1": return random.nextInt(18) - 1;
            case "told1": return random.nextInt(3) == 0 ? random.nextInt(3) : 10 + random.nextInt(7);
            case "of1": case "thingOf1": return random.nextInt(5);
            case "many0": return random.nextInt(6);
            case "span2": return random.nextInt(3);
            case "twin1": case "doubles1": return random.nextInt(64);
            case "twin2": return random.nextInt(5) - 1;
            default: return random.nextInt(7);
        }
    }
}
