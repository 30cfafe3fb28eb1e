import java.lang.reflect.Method;

/** Every refusal of every promise, the first of several, and that what is refused changes nothing. */
public final class RefusalsTest {
    private static final int MIN = Integer.MIN_VALUE, MAX = Integer.MAX_VALUE;

    private static FogNets asked;
    private static String before;

    public static void main(String[] args) throws Exception {
        withCoast();
        without();
        full();
        Check.end();
    }

    private static void set(FogNets x) {
        asked = x;
        before = Seen.all(x);
    }

    private static void due(int want, String name, Object... given) throws Exception {
        Class<?>[] types = new Class<?>[given.length];
        StringBuilder call = new StringBuilder(name).append('(');
        for (int k = 0; k < given.length; k++) {
            types[k] = given[k] instanceof Boolean ? boolean.class : int.class;
            call.append(k == 0 ? "" : ", ").append(given[k]);
        }
        Method m = FogNets.class.getMethod(name, types);
        Check.due(call.append(')').toString(), (Integer) m.invoke(asked, given), want);
        String now = Seen.all(asked);
        if (!now.equals(before)) {
            Check.due("what changed by " + call, 1, 0);
            System.out.println("  " + before + "\n  " + now);
            before = now;
        }
    }

    private static void unknown(String name, Object... given) throws Exception {
        due(Check.UNKNOWN, name, given);
    }

    private static void outside(String name, Object... given) throws Exception {
        due(Check.OUTSIDE, name, given);
    }

    private static void withCoast() throws Exception {
        FogNets x = Check.coast(CoastTest.COAST);
        x.seed(21);
        x.hour(3);
        x.lamp(true);
        x.got(0, 1, 3);
        x.write(0, 12);
        x.feed('f');
        set(x);
        for (int bad : new int[] {-1, 256, MIN, MAX}) outside("feed", bad);
        for (int bad : new int[] {-1, 16, MIN, MAX}) outside("told", bad);
        for (int bad : new int[] {-1, 2, 6, MIN, MAX}) noSuchPost(bad);
        for (int bad : new int[] {-1, 2, MIN, MAX}) noSuchVillageGoatImage(bad);
        for (int bad : new int[] {-1, 2, MIN, MAX}) noSuchPart(bad);
        for (int bad : new int[] {-1, 100, MIN, MAX}) noSuchNumber(bad);
        for (int bad : new int[] {0, -1, 61, MIN, MAX}) {
            outside("hour", bad);
            outside("drift", bad);
        }
        for (int bad : new int[] {0, -1, 31, MIN, MAX}) outside("undo", bad);
        due(Check.NOT, "undo", 5);
        due(Check.NOT, "undo", 30);
        due(Check.NOT, "goBack", 0);
        due(Check.NOT, "goBack", 1);
        due(Check.NOT, "move", 0, 1);
        due(Check.NOT, "move", 0, 3);
        for (int bad : new int[] {-1, 5, 12, MIN, MAX}) unknown("move", 0, bad);
        unknown("bestTwo", 1, 1, 0);
        unknown("bestTwo", 1, 1, 7);
        Check.due("the seed is as it was", x.seed(0), 21);
    }

    private static void noSuchPost(int p) throws Exception {
        unknown("post", p, 0);
        unknown("post", p, 99);
        unknown("lick", p, 1);
        unknown("lick", p, 0);
        unknown("mesh", p, 1);
        unknown("mesh", p, 10);
        unknown("move", p, 0);
        unknown("move", p, 1);
        unknown("gets", p, 1);
        unknown("gets", p, 100);
        unknown("level", p, 1);
        unknown("level", p, 100);
        unknown("shadow", p);
        unknown("bestMesh", p, 0);
        unknown("bestMesh", p, 2);
        unknown("bestCell", p, 0);
        unknown("bestCell", p, 2);
        unknown("bestTwo", p, 0, 0);
        unknown("bestTwo", 0, p, 2);
        unknown("bestTwo", p, p, 0);
        unknown("got", p, 0, 0);
        unknown("got", p, 2, 0);
        unknown("needs", p, 0, 0);
        unknown("needs", p, 0, 41);
        unknown("write", p, 0);
        unknown("write", p, 100);
    }

    private static void noSuchVillageGoatImage(int k) throws Exception {
        unknown("village", k, 0);
        unknown("village", k, 5);
        unknown("goat", k, 0);
        unknown("goat", k, 2);
        unknown("carry", k);
        unknown("thirsty", k);
        unknown("lasts", k);
        unknown("share", 1, k);
        unknown("share", 1000, k);
        unknown("yards", k, 0);
        unknown("yards", k, 2);
        unknown("keep", k);
        unknown("goBack", k);
    }

    /** A side or a 'what' that there is not. */
    private static void noSuchPart(int k) throws Exception {
        outside("goat", 0, k);
        outside("fog", 0, k);
        outside("fog", -1, k);
        outside("fog", k == -1 ? -2 : k, 0);
        outside("bestMesh", 0, k);
        outside("bestCell", 0, k);
        outside("bestTwo", 0, 1, k);
        outside("led", 9, k, 1);
        outside("yards", 0, k);
        outside("got", 0, k, 1);
        outside("lookAt", k);
        outside("needs", 0, k, 1);
        outside("thick", k == 2 ? 3 : k);
        outside("post", 0, k == 2 ? 5 : k);
        outside("village", 0, k == 2 ? 5 : k);
    }

    private static void noSuchNumber(int n) throws Exception {
        outside("lick", 0, n == -1 ? 0 : n);
        outside("mesh", 0, n == 100 ? 10 : n);
        outside("gets", 0, n);
        outside("level", 0, n);
        outside("lampCosts", n);
        outside("apart", n);
        outside("share", n == 100 ? 1000 : n, 0);
        outside("led", n, 0, 0);
        outside("led", 99, 0, n == 100 ? 99 : n);
        outside("clear", n == 100 ? 61 : n, 50);
        outside("clear", 5, n == 100 ? 101 : n);
        outside("got", 0, 0, n == 100 ? 41 : n);
        outside("needs", 0, 0, n == 100 ? 41 : n);
        outside("write", 0, n);
    }

    private static void without() throws Exception {
        set(new FogNets());
        for (int k : new int[] {0, 1, -1, 5}) {
            unknown("post", k, 0);
            unknown("goat", k, 9);
            unknown("lick", k, 1);
            unknown("mesh", k, 1);
            unknown("move", k, 0);
            unknown("gets", k, 1);
            unknown("level", k, 0);
            unknown("shadow", k);
            unknown("bestMesh", k, 0);
            unknown("bestCell", k, 0);
            unknown("bestTwo", k, k + 1, 0);
            unknown("yards", k, 0);
            unknown("got", k, 0, 0);
            unknown("needs", k, 0, 0);
            unknown("write", k, 0);
        }
        outside("fog", 0, 0);
        outside("fog", -1, 2);
        due(Check.NOT, "fog", -1, 1);
        outside("hour", 0);
        due(Check.NOT, "hour", 60);
        outside("drift", 61);
        due(Check.NOT, "drift", 1);
        unknown("carry", 2);
        due(Check.NOT, "carry", 0);
        due(Check.NOT, "lamp", true);
        due(Check.NOT, "lamp", false);
        outside("undo", 31);
        due(Check.NOT, "undo", 1);
        due(Check.NOT, "left");
        outside("lampCosts", 100);
        due(Check.NOT, "lampCosts", 0);
        unknown("thirsty", 2);
        due(Check.NOT, "thirsty", 1);
        unknown("lasts", -1);
        due(Check.NOT, "both");
        outside("apart", -1);
        due(Check.NOT, "apart", 0);
        unknown("share", 1000, 2);
        outside("share", 1000, 0);
        outside("led", 0, 0, 0);
        outside("led", 1, 2, 0);
        due(Check.NOT, "led", 1, 0, 0);
        outside("thick", 3);
        due(Check.NOT, "thick", 0);
        outside("lookAt", 2);
        due(Check.NOT, "lookAt", 0);
        unknown("goBack", 2);
        due(Check.NOT, "goBack", 1);
        Check.due("the seed is as it was", asked.seed(0), 0);
    }

    private static void full() throws Exception {
        FogNets x = Check.coast("f1 0;p0 0 1 0;");
        for (int n = 0; n < 240; n++) x.feed(' ');
        for (int n = 0; n < 6; n++) x.got(0, 0, 0);
        for (int n = 0; n < 20; n++) x.write(0, 0);
        for (int n = 0; n < 151; n++) x.hour(60);
        set(x);
        due(Check.FULL, "feed", 32);
        due(Check.OUTSIDE, "feed", 256);
        due(Check.FULL, "got", 0, 0, 0);
        due(Check.OUTSIDE, "got", 0, 0, 41);
        due(Check.UNKNOWN, "got", 1, 0, 0);
        due(Check.FULL, "write", 0, 0);
        due(Check.OUTSIDE, "write", 0, 100);
        due(Check.UNKNOWN, "write", 1, 0);
        due(Check.FULL, "hour", 1);
        due(Check.OUTSIDE, "hour", 61);
        due(Check.FULL, "drift", 60);
        due(Check.OUTSIDE, "drift", 0);
        Check.due("the seed is as it was", x.seed(0), 0);
    }
}
