import java.lang.reflect.InvocationTargetException;
import java.lang.reflect.Method;
import java.lang.reflect.Modifier;
import java.util.ArrayList;
import java.util.Comparator;
import java.util.List;
import java.util.Random;

/** Runs of 512 calls, drawn with a set seed, on the class and on the plain model: answers must be alike. */
public final class ModelTest {
    private static final int RUNS = 400, CALLS = 512;
    private static final int[] ODD = {-1, 0, 1, 2, 3, 5, 6, 9, 10, 12, 16, 19, 20, 30, 31, 40, 41, 60, 61, 99, 100, 101,
        127, 255, 256, 999, 1000, Integer.MAX_VALUE, Integer.MIN_VALUE, -2, -1000000001};

    private final Random dice;
    private final FogNets fogNets = new FogNets();
    private final PlainModel model = new PlainModel();
    private final List<String> calls = new ArrayList<>();
    private int seen = 0;
    private int letters = 0;

    private ModelTest(long run) {
        dice = new Random(run);
    }

    public static void main(String[] args) throws Exception {
        List<Method> methods = new ArrayList<>();
        for (Method m : FogNets.class.getDeclaredMethods()) {
            if (Modifier.isPublic(m.getModifiers())) methods.add(m);
        }
        // The order of reflection is nobody's promise: runs must be the same each time.
        methods.sort(Comparator.comparing(Method::getName));
        for (int run = 0; run < RUNS; run++) new ModelTest(run).goThrough(methods);
        Check.end();
    }

    private void goThrough(List<Method> methods) throws Exception {
        boolean wild = dice.nextInt(8) == 0;
        tell(methods, CoastTexts.coast(dice));
        while (seen < CALLS) {
            if (dice.nextInt(wild ? 40 : 300) == 0) {
                tell(methods, dice.nextBoolean() ? CoastTexts.coast(dice) : CoastTexts.broken(dice));
                continue;
            }
            Method m = methods.get(dice.nextInt(methods.size()));
            if (m.getName().equals("coast") || m.getName().equals("feed") && dice.nextInt(10) != 0) continue;
            call(m, arguments(m));
        }
    }

    private void tell(List<Method> methods, String text) throws Exception {
        Method feed = FogNets.class.getMethod("feed", int.class);
        for (int i = 0; i < text.length() && seen < CALLS; i++) call(feed, new Object[] {(int) text.charAt(i)});
        if (seen < CALLS) call(FogNets.class.getMethod("coast"), new Object[0]);
        if (seen < CALLS) call(FogNets.class.getMethod("fault"), new Object[0]);
    }

    private Object[] arguments(Method m) {
        Object[] given = new Object[m.getParameterCount()];
        for (int k = 0; k < given.length; k++) {
            if (m.getParameterTypes()[k] == boolean.class) given[k] = dice.nextBoolean();
            else given[k] = dice.nextInt(25) == 0 ? ODD[dice.nextInt(ODD.length)] : likely(m.getName(), k);
        }
        return given;
    }

    private int likely(String name, int k) {
        switch (name) {
            case "feed": return 32 + dice.nextInt(96);
            case "told": return dice.nextInt(17);
            case "hour": case "drift": return 1 + dice.nextInt(dice.nextInt(4) == 0 ? 60 : 5);
            case "undo": return 1 + dice.nextInt(dice.nextInt(4) == 0 ? 30 : 4);
            case "seed": return dice.nextInt(Integer.MAX_VALUE);
            case "clear": return dice.nextInt(k == 0 ? 61 : 101);
            case "share": return k == 0 ? dice.nextInt(1000) : dice.nextInt(2);
            case "led": return k == 1 ? dice.nextInt(2) : dice.nextInt(k == 0 ? 100 : 50);
            case "fog": return k == 0 ? dice.nextInt(13) - 1 : dice.nextInt(2);
            case "bestTwo": return k < 2 ? dice.nextInt(6) : dice.nextInt(2);
            case "needs": case "got": return k == 0 ? dice.nextInt(6) : k == 1 ? dice.nextInt(2) : dice.nextInt(20);
            case "apart": case "lampCosts": return dice.nextInt(100);
            case "move": return dice.nextInt(k == 0 ? 6 : 12);
            case "lookAt": case "keep": case "goBack": case "carry": case "thirsty": case "lasts": return dice.nextInt(2);
            case "thick": return dice.nextInt(3);
            case "village": return dice.nextInt(k == 0 ? 2 : 5);
            case "goat": case "yards": return dice.nextInt(k == 0 ? 4 : 2);
            case "bestMesh": case "bestCell": return dice.nextInt(k == 0 ? 6 : 2);
            case "write": return k == 0 ? dice.nextInt(6) : fogNets.post(dice.nextInt(6), 4);
            default: return k == 0 ? dice.nextInt(6) : dice.nextInt(dice.nextInt(2) == 0 ? 5 : 99);
        }
    }

    private void call(Method m, Object[] given) throws Exception {
        StringBuilder told = new StringBuilder(m.getName()).append('(');
        for (int k = 0; k < given.length; k++) told.append(k == 0 ? "" : ", ").append(given[k]);
        told.append(')');
        calls.add(told.toString());
        seen++;
        int want = (Integer) PlainModel.class.getMethod(m.getName(), m.getParameterTypes()).invoke(model, given);
        int got;
        try {
            got = (Integer) m.invoke(fogNets, given);
        } catch (InvocationTargetException e) {
            System.out.println(told + " threw " + e.getCause());
            got = want + 1;
        }
        Check.due(told.toString(), got, want);
        if (got != want) {
            System.out.println("  behind " + calls);
            System.exit(1);
        }
    }
}
