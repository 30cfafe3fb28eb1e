/** Counts answers that are not due, and prints them. */
final class Check {
    static final int NONE = -1, UNKNOWN = -1000000001, OUTSIDE = -1000000002, NOT = -1000000003, FULL = -1000000004;

    private static int right = 0;
    private static int wrong = 0;

    private Check() {
    }

    static void due(String call, long got, long want) {
        if (got == want) {
            right++;
            return;
        }
        wrong++;
        System.out.println(call + " answered " + got + ", due is " + want);
    }

    static void feed(FogNets x, String text) {
        for (int i = 0; i < text.length(); i++) x.feed(text.charAt(i));
    }

    /** A new object with this coast, which must have no fault. */
    static FogNets coast(String text) {
        FogNets x = new FogNets();
        feed(x, text);
        int posts = x.coast();
        if (posts < 0) due("coast() of '" + text + "'", posts, 0);
        return x;
    }

    /** What coast() and then fault() answer of a text on a new object. */
    static void dueFault(String text, int answer, int place) {
        FogNets x = new FogNets();
        feed(x, text);
        due("coast() of '" + text + "'", x.coast(), answer);
        due("fault() of '" + text + "'", x.fault(), place);
        due("letters behind '" + text + "'", x.told(5), 0);
    }

    static void end() {
        System.out.println(right + " answers as due, " + wrong + " not");
        if (wrong != 0 || right == 0) System.exit(1);
    }
}
