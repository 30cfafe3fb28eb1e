/** Promises 1 to 9: the text, its faults, and what is told of a coast. */
public final class CoastTest {
    /** Days 0 and 2 are VILLAGE 0's, days 1 and 2 VILLAGE 1's. */
    static final String COAST = "f5 6;h0 30;h1 10;p1 4 15 0;p3 2 50 1;d5 6;u4 7;g1 3;g3 20;";

    public static void main(String[] args) {
        newObject();
        feed();
        coast();
        noCoast();
        faultyTextLeavesAll();
        newCoastForgetsAll();
        firstFaults();
        faultsOfWords();
        faultsOfNumbers();
        blanks();
        told();
        post();
        fog();
        village();
        goat();
        Check.end();
    }

    private static void newObject() {
        FogNets x = new FogNets();
        for (int what = 0; what <= 15; what++) Check.due("new told(" + what + ")", x.told(what), 0);
        Check.due("new fault()", x.fault(), Check.NONE);
        Check.due("new post(0, 0)", x.post(0, 0), Check.UNKNOWN);
        Check.due("new goat(0, 0)", x.goat(0, 0), Check.UNKNOWN);
        Check.due("new village(0, 0)", x.village(0, 0), 127);
        Check.due("new village(1, 0)", x.village(1, 0), 127);
        Check.due("new village(1, 1)", x.village(1, 1), 0);
        Check.due("new village(1, 4)", x.village(1, 4), 0);
        Check.due("new fog(NONE, 0)", x.fog(Check.NONE, 0), Check.NOT);
        Check.due("new seed(5)", x.seed(5), 0);
    }

    private static void feed() {
        FogNets x = new FogNets();
        Check.due("feed(-1)", x.feed(-1), Check.OUTSIDE);
        Check.due("feed(256)", x.feed(256), Check.OUTSIDE);
        Check.due("feed(0)", x.feed(0), 1);
        Check.due("feed(255)", x.feed(255), 2);
        for (int n = 3; n <= 240; n++) Check.due("feed(32)", x.feed(32), n);
        Check.due("feed(32) of a full text", x.feed(32), Check.FULL);
        Check.due("feed(256) of a full text", x.feed(256), Check.OUTSIDE);
        Check.due("told(5)", x.told(5), 240);
        Check.due("coast()", x.coast(), -11);
        Check.due("fault()", x.fault(), 0);
        Check.due("feed(102) behind it", x.feed(102), 1);
    }

    private static void coast() {
        FogNets x = new FogNets();
        Check.feed(x, COAST);
        Check.due("coast()", x.coast(), 2);
        Check.due("fault()", x.fault(), Check.NONE);
        Check.due("told(5)", x.told(5), 0);
        Check.due("told(0)", x.told(0), 5);
        Check.feed(x, "f1 0;");
        Check.due("coast() without posts", x.coast(), 0);
        Check.due("hours of a day without hours", x.told(2), 1);
        StringBuilder full = new StringBuilder("f12 20;");
        while (full.length() < 240) full.append(' ');
        Check.feed(x, full.toString());
        Check.due("coast() of 240 letters", x.coast(), 0);
        Check.due("its cells", x.told(0), 12);
        Check.due("its V", x.told(1), 20);
        Check.due("six posts", Check.coast("f6 0;p0 0 1 0;p1 0 1 0;p2 0 1 0;p3 0 1 0;p4 0 1 0;p5 0 1 0;").told(3), 6);
        Check.due("four goats in one cell", Check.coast("f1 0;g0 1;g0 1;g0 20;g0 1;").told(4), 4);
    }

    private static void noCoast() {
        FogNets x = Check.coast(COAST);
        Check.due("coast() of an empty text", x.coast(), 0);
        for (int what = 0; what <= 15; what++) Check.due("told(" + what + ")", x.told(what), 0);
        Check.due("set of days", x.village(0, 0), 127);
        Check.due("use", x.village(1, 1), 0);
        Check.due("hour(1)", x.hour(1), Check.NOT);
        Check.feed(x, COAST);
        x.coast();
        Check.feed(x, "   ");
        Check.due("coast() of blanks", x.coast(), 0);
        Check.due("fault()", x.fault(), Check.NONE);
        for (int what = 0; what <= 15; what++) Check.due("told(" + what + ") behind blanks", x.told(what), 0);
        Check.due("set of days behind blanks", x.village(0, 0), 127);
        Check.due("use behind blanks", x.village(1, 1), 0);
        Check.due("posts behind blanks", x.village(0, 4), 0);
    }

    private static void faultyTextLeavesAll() {
        FogNets x = Check.coast(COAST);
        x.seed(77);
        x.hour(3);
        x.keep(1);
        x.lick(0, 2);
        x.got(0, 0, 3);
        x.write(1, 5);
        Check.feed(x, "f3 1;p0 1 1 0;d1 1;u1 1;h1 1;g0 1;x");
        String was = Seen.all(x);
        Check.due("coast() with a fault", x.coast(), -11);
        Check.due("fault()", x.fault(), 34);
        Check.due("letters", x.told(5), 0);
        Check.due("all else is as it was", was.equals(Seen.all(x).replace("told5=0 ", "told5=35 ")
            .replace("fault=34", "fault=-1")) ? 1 : 0, 1);
        Check.due("undo(1)", x.undo(1), 1);
        Check.due("goBack(1)", x.goBack(1), 1);
        Check.due("seed(1)", x.seed(1), 77);
        // A fault is of the latest text alone, and nothing of a bad text stays for the next one.
        Check.feed(x, "f2 0;");
        Check.due("coast()", x.coast(), 0);
        Check.due("fault()", x.fault(), Check.NONE);
        Check.due("set of days", x.village(0, 0), 127);
        Check.due("use", x.village(0, 1), 0);
        Check.due("hours", x.told(2), 1);
        Check.due("next fog", x.fog(Check.NONE, 0), 0);
        Check.due("next fog", x.fog(Check.NONE, 1), 0);
    }

    private static void newCoastForgetsAll() {
        FogNets x = Check.coast(COAST);
        x.seed(9);
        x.carry(0);
        x.hour(5);
        x.carry(0);
        x.carry(1);
        x.lamp(true);
        x.got(0, 0, 3);
        x.write(1, 5);
        x.keep(0);
        x.keep(1);
        x.hour(1);
        Check.feed(x, COAST);
        Check.due("coast()", x.coast(), 2);
        Check.due("the same as new", Seen.all(x).equals(Seen.all(Check.coast(COAST))) ? 1 : 0, 1);
        Check.due("goBack(0)", x.goBack(0), Check.NOT);
        Check.due("goBack(1)", x.goBack(1), Check.NOT);
        Check.due("undo(1)", x.undo(1), Check.NOT);
        Check.due("seed stays", x.seed(0), 9);
    }

    private static void firstFaults() {
        Check.dueFault("h0 0;", -11, 0);
        Check.dueFault("x", -11, 0);
        Check.dueFault(";", -11, 0);
        Check.dueFault("  p0 0 1 0;", -11, 2);
        Check.dueFault("f", -11, 1);
        Check.dueFault("f ", -11, 2);
        Check.dueFault("f5", -11, 2);
        Check.dueFault("f5  ", -11, 4);
        Check.dueFault("f;", -11, 1);
        Check.dueFault("f5;", -11, 2);
        Check.dueFault("f5 0", -11, 4);
        Check.dueFault("f5 0 0;", -11, 5);
        Check.dueFault("f-5 0;", -11, 1);
        Check.dueFault("f5,0;", -11, 2);
        Check.dueFault("f5\t0;", -11, 2);
        Check.dueFault("f5 0;;", -11, 5);
        Check.dueFault("f5 0;H0 0;", -11, 5);
        Check.dueFault("f5 0;7", -11, 5);
        Check.dueFault("f5 0;p0 0 1 0", -11, 13);
        Check.dueFault("f5 0;p0 0 1 0 0;", -11, 14);
        Check.dueFault("f5 0;p0 0 1;", -11, 11);
        Check.dueFault("f5 0;g1 1g", -11, 9);
        Check.dueFault("f5 0;u;", -11, 6);
        Check.dueFault("f5 0;" + (char) 255, -11, 5);
        Check.dueFault("f5 0;" + (char) 0, -11, 5);
        // What comes first counts, whichever number it has.
        Check.dueFault("f99x", -12, 1);
        Check.dueFault("fx99", -11, 1);
    }

    private static void faultsOfWords() {
        Check.dueFault("f5 0;f", -13, 5);
        Check.dueFault("f5 0;  f5 0;", -13, 7);
        Check.dueFault("f5 0;d1 1;d1 1;", -13, 10);
        Check.dueFault("f5 0;u1 1;u1 1;", -13, 10);
        Check.dueFault("f5 0;d127 127;u1 1;h0 0;d", -13, 24);
        StringBuilder text = new StringBuilder("f7 0;");
        for (int h = 0; h < 12; h++) text.append("h1 1;");
        Check.due("twelve hours", Check.coast(text.toString()).told(2), 12);
        Check.dueFault(text + "h1 1;", -13, 65);
        text.setLength(5);
        for (int p = 0; p < 6; p++) text.append('p').append(p).append(" 0 1 0;");
        Check.dueFault(text + "p6 0 1 0;", -13, 59);
        Check.dueFault("f1 0;g0 1;g0 1;g0 1;g0 1;g9 99;", -13, 25);
    }

    private static void faultsOfNumbers() {
        Check.dueFault("f0 0;", -12, 1);
        Check.dueFault("f13 0;", -12, 1);
        Check.dueFault("f 13 0;", -12, 2);
        Check.dueFault("f1 21;", -12, 3);
        Check.dueFault("f0001 0;", -12, 1);
        Check.dueFault("f1 0000", -12, 3);
        Check.dueFault("f1 4294967296;", -12, 3);
        Check.dueFault("f1 20;", 0, Check.NONE);
        Check.dueFault("f012 020;", 0, Check.NONE);
        Check.dueFault("f5 0;h2 0;", -12, 6);
        Check.dueFault("f5 0;h1 41;", -12, 8);
        Check.dueFault("f5 0;h1 40;", 0, Check.NONE);
        Check.dueFault("f5 0;p5 0 1 0;", -12, 6);
        Check.dueFault("f5 0;p4 9 99 1;", 1, Check.NONE);
        Check.dueFault("f5 0;p4 10 1 0;", -12, 8);
        Check.dueFault("f5 0;p4 9 0 0;", -12, 10);
        Check.dueFault("f5 0;p4 9 100 0;", -12, 10);
        Check.dueFault("f5 0;p4 9 99 2;", -12, 13);
        Check.dueFault("f5 0;d128 0;", -12, 6);
        Check.dueFault("f5 0;d127 128;", -12, 10);
        Check.dueFault("f5 0;u100 0;", -12, 6);
        Check.dueFault("f5 0;u99 100;", -12, 9);
        Check.dueFault("f5 0;u99 99;d0 0;", 0, Check.NONE);
        Check.dueFault("f5 0;g5 1;", -12, 6);
        Check.dueFault("f5 0;g4 0;", -12, 8);
        Check.dueFault("f5 0;g4 21;", -12, 8);
        Check.dueFault("f5 0;g4 20;", 0, Check.NONE);
        Check.dueFault("f5 0;p2 0 1 0;p2 0 1 0;", -14, 15);
        Check.dueFault("f5 0;p2 0 1 0;p3 0 1 0;p 002x", -14, 25);
        Check.dueFault("f5 0;p2 0 1 0;p0002 0 1 0;", -12, 15);
        // Where the cell's number has a fault, that is the only one.
        Check.dueFault("f5 0;p0 0 1 0;p;", -11, 15);
        Check.dueFault("f5 0;p0 0 1 0;p0000;", -12, 15);
        Check.dueFault("f5 0;p0 0 1 0;px", -11, 15);
    }

    private static void blanks() {
        FogNets x = Check.coast("  f 5  6 ; h0 30 ;p1   4 15 0 ; d 5 6;u4 7 ;g 1 3;  ");
        Check.due("cells", x.told(0), 5);
        Check.due("V", x.told(1), 6);
        Check.due("posts", x.told(3), 1);
        Check.due("goats", x.told(4), 1);
        Check.dueFault("f1 2 3;", -11, 5);
        Check.dueFault("f10;", -11, 3);
    }

    private static void told() {
        FogNets x = Check.coast(COAST);
        x.feed('f');
        x.hour(3);
        x.lamp(true);
        x.got(0, 0, 1);
        x.got(0, 0, 1);
        x.write(0, 1);
        int[] want = {5, 6, 2, 2, 2, 1, 1, 1, 1, 2, 18, 2, 3, 2, 1, 4};
        for (int what = 0; what < want.length; what++) Check.due("told(" + what + ")", x.told(what), want[what]);
        Check.due("told(-1)", x.told(-1), Check.OUTSIDE);
        Check.due("told(16)", x.told(16), Check.OUTSIDE);
        x.hour(1);
        Check.due("who hangs on day 2", x.told(9), 3);
        x.hour(2);
        Check.due("who hangs on day 3", x.told(9), 0);
        x.hour(8);
        Check.due("day 7 is named 0", x.told(9), 1);
    }

    private static void post() {
        FogNets x = Check.coast(COAST);
        int[][] want = {{1, 4, 15, 0, 0}, {3, 2, 50, 1, 0}};
        for (int p = 0; p < 2; p++) {
            for (int what = 0; what < 5; what++) Check.due("post(" + p + ", " + what + ")", x.post(p, what), want[p][what]);
        }
        x.hour(1);
        x.mesh(0, 7);
        x.move(0, 4);
        Check.due("cell", x.post(0, 0), 4);
        Check.due("mesh", x.post(0, 1), 7);
        Check.due("jar", x.post(0, 4), 12);
        Check.due("post(2, 9)", x.post(2, 9), Check.UNKNOWN);
        Check.due("post(-1, 0)", x.post(-1, 0), Check.UNKNOWN);
        Check.due("post(0, 5)", x.post(0, 5), Check.OUTSIDE);
        Check.due("post(1, -1)", x.post(1, -1), Check.OUTSIDE);
    }

    private static void fog() {
        FogNets x = Check.coast(COAST);
        Check.due("fog(0, 0)", x.fog(0, 0), 0);
        Check.due("fog(0, 1)", x.fog(0, 1), 30);
        Check.due("fog(1, 0)", x.fog(1, 0), 1);
        Check.due("fog(1, 1)", x.fog(1, 1), 10);
        Check.due("fog(2, 0)", x.fog(2, 0), Check.OUTSIDE);
        Check.due("fog(-2, 0)", x.fog(-2, 0), Check.OUTSIDE);
        Check.due("fog(0, 2)", x.fog(0, 2), Check.OUTSIDE);
        Check.due("fog(NONE, -1)", x.fog(Check.NONE, -1), Check.OUTSIDE);
        Check.due("fog(NONE, 1)", x.fog(Check.NONE, 1), 30);
        x.lamp(true);
        Check.due("the text's fog with the lamp lit", x.fog(Check.NONE, 1), 30);
        x.hour(1);
        Check.due("fog(NONE, 0)", x.fog(Check.NONE, 0), 1);
        Check.due("fog(NONE, 1)", x.fog(Check.NONE, 1), 10);
        x.hour(1);
        Check.due("fog(NONE, 0)", x.fog(Check.NONE, 0), 0);
        FogNets still = Check.coast("f2 3;");
        Check.due("no hour told: fog(NONE, 0)", still.fog(Check.NONE, 0), 0);
        Check.due("no hour told: fog(NONE, 1)", still.fog(Check.NONE, 1), 0);
        Check.due("no hour told: fog(0, 1)", still.fog(0, 1), Check.OUTSIDE);
        FogNets bare = new FogNets();
        Check.due("bare fog(NONE, 1)", bare.fog(Check.NONE, 1), Check.NOT);
        Check.due("bare fog(NONE, 2)", bare.fog(Check.NONE, 2), Check.OUTSIDE);
        Check.due("bare fog(0, 0)", bare.fog(0, 0), Check.OUTSIDE);
    }

    private static void village() {
        FogNets x = Check.coast(COAST);
        int[][] want = {{5, 4, 0, 0, 1}, {6, 7, 0, 0, 2}};
        for (int v = 0; v < 2; v++) {
            for (int what = 0; what < 5; what++) {
                Check.due("village(" + v + ", " + what + ")", x.village(v, what), want[v][what]);
            }
        }
        x.hour(1);
        x.carry(0);
        Check.due("cistern 0", x.village(0, 2), 12);
        x.hour(1);
        Check.due("cistern 0 behind the day", x.village(0, 2), 8);
        Check.due("thirst 0", x.village(0, 3), 0);
        Check.due("thirst 1", x.village(1, 3), 7);
        Check.due("village(2, 9)", x.village(2, 9), Check.UNKNOWN);
        Check.due("village(-1, 0)", x.village(-1, 0), Check.UNKNOWN);
        Check.due("village(0, 5)", x.village(0, 5), Check.OUTSIDE);
        Check.due("village(1, -1)", x.village(1, -1), Check.OUTSIDE);
        Check.due("posts 0, 2 of three", Check.coast("f3 0;p0 0 1 1;p1 0 1 0;p2 0 1 1;").village(1, 4), 5);
    }

    private static void goat() {
        FogNets x = Check.coast(COAST);
        Check.due("goat(0, 0)", x.goat(0, 0), 1);
        Check.due("goat(0, 1)", x.goat(0, 1), 3);
        Check.due("goat(1, 0)", x.goat(1, 0), 3);
        Check.due("goat(1, 1)", x.goat(1, 1), 20);
        Check.due("goat(2, 9)", x.goat(2, 9), Check.UNKNOWN);
        Check.due("goat(-1, 0)", x.goat(-1, 0), Check.UNKNOWN);
        Check.due("goat(1, 2)", x.goat(1, 2), Check.OUTSIDE);
        Check.due("goat(1, -1)", x.goat(1, -1), Check.OUTSIDE);
    }
}
