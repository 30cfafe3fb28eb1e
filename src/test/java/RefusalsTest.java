import java.util.ArrayList;
import java.util.List;

/**
 * Each call with each of its arguments least, greatest, one below, one above and far out, in all ways to
 * put them together, on four coasts: what it refuses, which refusal comes first, and (by Script) that
 * what is refused changes nothing.
 */
public final class RefusalsTest {
    /**
     * A call and what its arguments may be: a POST, CELL, VILLAGE, GOAT, IMAGE, or a number within bounds; an '!'
     * where it is NOT without a COAST.
     */
    private static final String[] CALLS = {
        "feed 0..255", "fault", "told 0..15", "post POST 0..4", "village VILLAGE 0..4", "goat GOAT 0..1",
        "hour 1..60 !", "carry VILLAGE !", "lick POST 1..99", "mesh POST 0..9", "lamp boolean !", "drift 1..60 !",
        "gets POST 0..99", "level POST 0..99", "shadow POST", "left !", "bestMesh POST 0..1", "bestCell POST 0..1",
        "bestTwo POST POST 0..1", "lampCosts 0..99 !", "thirsty VILLAGE !", "lasts VILLAGE", "both !", "apart 0..99 !",
        "share 0..999 VILLAGE", "yards GOAT 0..1", "clear 0..60 0..100", "got POST 0..1 0..40", "thick 0..2 !",
        "lookAt 0..1 !", "needs POST 0..1 0..40", "write POST 0..99", "judge", "tear", "seed 0..2147483647", "keep IMAGE"};

    /** A coast, and how many CELLS, POSTS and GOATS, and HOURS of the text it has. */
    private static final class Ridge {
        final String calls;
        final int cells;
        final int posts;
        final int goats;
        final int hours;

        Ridge(String calls, int cells, int posts, int goats, int hours) {
            this.calls = calls;
            this.cells = cells;
            this.posts = posts;
            this.goats = goats;
            this.hours = hours;
        }

        /** How many there are of what an argument names, or NONE, if it is a number. */
        int howMany(String argument) {
            switch (argument) {
                case "CELL": return cells;
                case "POST": return posts;
                case "GOAT": return goats;
                case "VILLAGE": case "IMAGE": return 2;
                default: return Check.NONE;
            }
        }
    }

    private static final Ridge[] RIDGES = {
        new Ridge("", 0, 0, 0, 0),
        new Ridge("coast<f1 0;> seed(5) keep(1) hour(2) ", 1, 0, 0, 0),
        new Ridge("coast<" + CoastTest.COAST + "> keep(0) seed(21) hour(3) lamp(true) got(0,1,3) write(0,12) feed(102) ", 5, 2, 2, 2),
        new Ridge("coast<f12 20;h0 40;h1 40;h0 1;h0 2;h0 3;h0 4;h0 5;h0 6;h0 7;h0 8;h0 9;h0 20;p0 9 9 0;p2 8 9 1;p4 7 9 0;p6 2 9 1;"
            + "p8 1 9 0;p11 0 9 1;u9 9;g0 1;g4 2;g11 3;g11 4;> hour(2) got(0,1,3) write(0,9) ", 12, 6, 4, 12)};

    public static void main(String[] args) {
        for (Ridge ridge : RIDGES) {
            for (String call : CALLS) allWays(ridge, call.split(" "));
            fog(ridge);
            move(ridge);
            led(ridge);
            undo(ridge);
            goBack(ridge);
        }
        full();
        Check.end();
    }

    private static int tries = 0;

    private static void due(Ridge ridge, String call, int want) {
        tries++;
        Script.edge("refusals", ridge.calls + call + "=" + want);
    }

    /** The values to try of an argument, those that are taken first. */
    private static List<String> values(Ridge ridge, String argument) {
        if (argument.equals("boolean")) return List.of("true", "false");
        List<String> all = new ArrayList<>();
        long least = 0;
        long most = ridge.howMany(argument) - 1L;
        if (ridge.howMany(argument) == Check.NONE) {
            least = Long.parseLong(argument.substring(0, argument.indexOf('.')));
            most = Long.parseLong(argument.substring(argument.lastIndexOf('.') + 1));
        }
        all.add(String.valueOf(least));
        all.add(String.valueOf(most));
        all.add(String.valueOf(least - 1));
        if (most < Integer.MAX_VALUE) all.add(String.valueOf(most + 1));
        all.add(String.valueOf(Integer.MIN_VALUE));
        all.add(String.valueOf(Integer.MAX_VALUE));
        return all;
    }

    private static boolean isTaken(Ridge ridge, String argument, String value) {
        if (argument.equals("boolean")) return true;
        long x = Long.parseLong(value);
        int many = ridge.howMany(argument);
        if (many != Check.NONE) return x >= 0 && x < many;
        return x >= Long.parseLong(argument.substring(0, argument.indexOf('.')))
            && x <= Long.parseLong(argument.substring(argument.lastIndexOf('.') + 1));
    }

    private static void allWays(Ridge ridge, String[] call) {
        int arguments = call.length - 1 - (call[call.length - 1].equals("!") ? 1 : 0);
        List<List<String>> ways = new ArrayList<>();
        ways.add(new ArrayList<>());
        for (int k = 1; k <= arguments; k++) {
            List<List<String>> longer = new ArrayList<>();
            for (List<String> way : ways) {
                for (String value : values(ridge, call[k])) {
                    List<String> one = new ArrayList<>(way);
                    one.add(value);
                    longer.add(one);
                }
            }
            ways = longer;
        }
        for (List<String> way : ways) {
            String told = call[0] + "(" + String.join(",", way) + ")";
            int refusal = refusal(ridge, call, way);
            if (refusal != 0) due(ridge, told, refusal);
            else isAnswered(ridge, told);
        }
    }

    /** What is due of a call, or 0, if it must not be refused. */
    private static int refusal(Ridge ridge, String[] call, List<String> given) {
        boolean unknown = call[0].equals("bestTwo") && given.get(0).equals(given.get(1));
        boolean outside = false;
        for (int k = 0; k < given.size(); k++) {
            if (isTaken(ridge, call[k + 1], given.get(k))) continue;
            if (ridge.howMany(call[k + 1]) != Check.NONE) unknown = true;
            else outside = true;
        }
        if (unknown) return Check.UNKNOWN;
        if (outside) return Check.OUTSIDE;
        return call[call.length - 1].equals("!") && ridge.cells == 0 ? Check.NOT : 0;
    }

    private static void isAnswered(Ridge ridge, String told) {
        Script.dueAnswer("no refusal", ridge.calls + told);
    }

    /** h is an HOUR of the text, or NONE. */
    private static void fog(Ridge ridge) {
        int[] hours = {Check.NONE, 0, ridge.hours - 1, -2, ridge.hours, Integer.MIN_VALUE, Integer.MAX_VALUE};
        for (int h : hours) {
            for (int what : new int[] {0, 1, -1, 2, Integer.MIN_VALUE, Integer.MAX_VALUE}) {
                String told = "fog(" + h + "," + what + ")";
                boolean outside = what < 0 || what > 1 || h < Check.NONE || h >= ridge.hours;
                if (outside) due(ridge, told, Check.OUTSIDE);
                else if (h == Check.NONE && ridge.cells == 0) due(ridge, told, Check.NOT);
                else isAnswered(ridge, told);
            }
        }
    }

    /** A CELL that has a POST is NOT to be moved to. */
    private static void move(Ridge ridge) {
        String[] cells = {"0", "1", "2", "3", "4", "5", "6", "7", "8", "9", "10", "11", "12", "-1", "MIN", "MAX"};
        for (String p : values(ridge, "POST")) {
            for (String a : cells) {
                String told = "move(" + p + "," + a + ")";
                boolean known = isTaken(ridge, "POST", p) && !a.startsWith("M") && isTaken(ridge, "CELL", a);
                if (!known) due(ridge, told, Check.UNKNOWN);
                else if (hasPost(ridge, a)) due(ridge, told, Check.NOT);
                else isAnswered(ridge, told);
            }
        }
    }

    private static boolean hasPost(Ridge ridge, String a) {
        return ridge.calls.contains(";p" + a + " ");
    }

    /** A drop is 0 to x less 1. */
    private static void led(Ridge ridge) {
        int[] some = {0, 1, 98, 99, 100, -1, Integer.MIN_VALUE, Integer.MAX_VALUE};
        for (int x : some) {
            for (int side : new int[] {0, 1, -1, 2, Integer.MIN_VALUE, Integer.MAX_VALUE}) {
                for (int i : some) {
                    String told = "led(" + x + "," + side + "," + i + ")";
                    boolean outside = x < 0 || x > 99 || side < 0 || side > 1 || i < 0 || i >= x;
                    if (outside) due(ridge, told, Check.OUTSIDE);
                    else if (ridge.cells == 0) due(ridge, told, Check.NOT);
                    else isAnswered(ridge, told);
                }
            }
        }
    }

    private static void undo(Ridge ridge) {
        FogNets x = Script.done(ridge.calls);
        int kept = x.told(15);
        for (int n : new int[] {0, -1, 31, Integer.MIN_VALUE, Integer.MAX_VALUE}) due(ridge, "undo(" + n + ")", Check.OUTSIDE);
        for (int n = 1; n <= 30; n++) {
            if (n > kept) due(ridge, "undo(" + n + ")", Check.NOT);
            else isAnswered(ridge, "undo(" + n + ")");
        }
    }

    private static void goBack(Ridge ridge) {
        for (int i : new int[] {-1, 2, Integer.MIN_VALUE, Integer.MAX_VALUE}) due(ridge, "goBack(" + i + ")", Check.UNKNOWN);
        for (int i = 0; i <= 1; i++) {
            if (!ridge.calls.contains("keep(" + i + ")")) due(ridge, "goBack(" + i + ")", Check.NOT);
            else isAnswered(ridge, "goBack(" + i + ")");
        }
    }

    /** FULL comes last: what is wrong besides is told first. */
    private static void full() {
        String setup = "coast<f1 0;p0 0 1 0;> ";
        Script.edge("FULL: feed", setup + "240xfeed(32) feed(32)=FULL feed(-1)=OUTSIDE feed(256)=OUTSIDE");
        Script.edge("FULL: got", setup + "6xgot(0,0,0) got(0,0,0)=FULL got(0,1,40)=FULL got(0,0,41)=OUTSIDE got(0,2,0)=OUTSIDE "
            + "got(1,0,0)=UNKNOWN got(1,2,41)=UNKNOWN");
        Script.edge("FULL: write", setup + "20xwrite(0,0) write(0,0)=FULL write(0,99)=FULL write(0,100)=OUTSIDE write(1,0)=UNKNOWN "
            + "write(1,100)=UNKNOWN");
        String late = setup + "seed(4) 151xhour(60) ";
        Script.edge("FULL: hour", late + "hour(1)=FULL hour(60)=FULL hour(0)=OUTSIDE hour(61)=OUTSIDE");
        Script.edge("FULL: drift", late + "drift(1)=FULL drift(60)=FULL drift(0)=OUTSIDE drift(61)=OUTSIDE");
        Check.due("many calls were tried", tries > 1000 ? 1 : 0, 1);
    }
}
