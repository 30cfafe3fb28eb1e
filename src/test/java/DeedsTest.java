/** Promises 10 to 17: hours, jars carried, licked, meshes, moves, the lamp, drawn hours, undoing. */
public final class DeedsTest {
    private static final String COAST = CoastTest.COAST;

    public static void main(String[] args) {
        hour();
        thickOrThin();
        spills();
        goatsDrink();
        hourBounds();
        carry();
        cisternIsFull();
        spilledIsFull();
        lick();
        mesh();
        move();
        lamp();
        drift();
        driftByHand();
        undo();
        undoEach();
        Check.end();
    }

    private static void hour() {
        FogNets x = Check.coast(COAST);
        // Day 0: VILLAGE 0's net alone. 30 from the left: 12. 10 from the right: 5; the jar spills 2; the goat drinks 3.
        Check.due("hour(1)", x.hour(1), 12);
        Check.due("jar 0", x.post(0, 4), 12);
        Check.due("hour", x.told(7), 1);
        Check.due("hour(1)", x.hour(1), 5);
        Check.due("jar 0", x.post(0, 4), 12);
        Check.due("spilled", x.told(11), 2);
        Check.due("drunk", x.told(12), 3);
        Check.due("days", x.told(6), 1);
        Check.due("hour", x.told(7), 0);
        Check.due("thirst 0", x.village(0, 3), 4);
        Check.due("thirst 1", x.village(1, 3), 7);
        // Day 1: VILLAGE 1's alone: 6, 7; the second goat drinks these 13, as there are no 20.
        Check.due("hour(2)", x.hour(2), 13);
        Check.due("jar 0", x.post(0, 4), 9);
        Check.due("jar 1", x.post(1, 4), 0);
        Check.due("drunk", x.told(12), 19);
        // Day 2: both: 12 and 12 from the left; 7 and 1 from the right.
        Check.due("hour(2)", x.hour(2), 32);
        Check.due("jar 0", x.post(0, 4), 12);
        Check.due("jar 1", x.post(1, 4), 0);
        Check.due("spilled", x.told(11), 9);
        Check.due("drunk", x.told(12), 41);
        Check.due("thirst 0", x.village(0, 3), 12);
        Check.due("thirst 1", x.village(1, 3), 21);
        Check.due("hour(8) while none hangs", x.hour(8), 0);
        Check.due("hour(60) from day 7", x.hour(60), 4 * 62 + 17 + 13);
        Check.due("days", x.told(6), 37);
    }

    private static void thickOrThin() {
        // 20 is THICK, 19 thin; what is cut goes on.
        int[][] fogs = {{19, 9 - 3}, {20, 3}};
        for (int[] f : fogs) {
            FogNets x = Check.coast("f2 0;h0 " + f[0] + ";p0 3 99 0;");
            Check.due("of fog " + f[0], x.hour(1), f[0] * f[1] / 10);
        }
        // It is THICK or thin where the net hangs: 24 is, the 12 behind the first net are not.
        FogNets x = Check.coast("f2 0;h0 24;p0 5 99 0;p1 1 99 1;");
        x.hour(1);
        Check.due("first", x.post(0, 4), 12);
        Check.due("second", x.post(1, 4), 9);
        FogNets y = Check.coast("f2 0;h1 24;p0 5 99 0;p1 1 99 1;");
        y.hour(1);
        Check.due("second, from the right", y.post(1, 4), 2);
        Check.due("first, from the right", y.post(0, 4), 11);
        FogNets still = Check.coast("f2 0;p0 5 99 0;");
        Check.due("an hour without fog", still.hour(1), 0);
        Check.due("days", still.told(6), 1);
    }

    private static void spills() {
        FogNets x = Check.coast("f1 0;h0 10;h0 10;p0 0 9 0;");
        Check.due("hour(1)", x.hour(1), 9);
        Check.due("a full jar spills nothing", x.told(11), 0);
        Check.due("what spills was taken", x.hour(1), 9);
        Check.due("spilled", x.told(11), 9);
        Check.due("jar", x.post(0, 4), 9);
    }

    private static void goatsDrink() {
        // Goats drink in their order, wherever the post of their cell came from; the net need not hang.
        FogNets x = Check.coast("f3 0;h0 40;p0 9 99 0;d1 0;g0 20;g2 5;g0 10;g0 20;");
        x.hour(1);
        Check.due("jar", x.post(0, 4), 0);
        Check.due("drunk", x.told(12), 36);
        x.undo(1);
        x.mesh(0, 5);
        x.hour(1);
        Check.due("20 are drunk of 20, nothing by the others", x.told(12), 20);
        x.undo(2);
        x.move(0, 2);
        x.hour(1);
        Check.due("jar in cell 2", x.post(0, 4), 31);
        x.hour(1);
        Check.due("jar in cell 2 on a day off", x.post(0, 4), 26);
        Check.due("drunk", x.told(12), 10);
    }

    private static void hourBounds() {
        FogNets x = new FogNets();
        Check.due("bare hour(0)", x.hour(0), Check.OUTSIDE);
        Check.due("bare hour(61)", x.hour(61), Check.OUTSIDE);
        Check.due("bare hour(60)", x.hour(60), Check.NOT);
        Check.due("bare drift(0)", x.drift(0), Check.OUTSIDE);
        Check.due("bare drift(61)", x.drift(61), Check.OUTSIDE);
        Check.due("bare drift(60)", x.drift(60), Check.NOT);
        Check.feed(x, "f1 0;");
        x.coast();
        for (int i = 0; i < 150; i++) x.hour(60);
        Check.due("days", x.told(6), 9000);
        Check.due("hour(60) at 9000 days", x.hour(60), 0);
        Check.due("days", x.told(6), 9060);
        Check.due("hour(1) above", x.hour(1), Check.FULL);
        Check.due("hour(61) above", x.hour(61), Check.OUTSIDE);
        Check.due("drift(1) above", x.drift(1), Check.FULL);
        FogNets y = Check.coast("f1 0;");
        for (int i = 0; i < 150; i++) y.drift(60);
        Check.due("drift(1) at 9000 days", y.drift(1), 0);
        Check.due("days", y.told(6), 9001);
        Check.due("drift(1) at 9001 days", y.drift(1), Check.FULL);
        Check.due("hour(1) at 9001 days", y.hour(1), Check.FULL);
        x.undo(30);
        Check.due("days", x.told(6), 9030);
        Check.due("drift(60) above", x.drift(60), Check.FULL);
        Check.due("days", x.told(6), 9030);
        Check.due("lamp(true) above", x.lamp(true), 0);
    }

    private static void carry() {
        FogNets x = Check.coast("f4 0;h0 20;p0 5 99 0;p1 0 99 1;p2 0 99 0;");
        x.hour(1);
        // 10; 9 of 10; 0 of 1.
        Check.due("carry(0)", x.carry(0), 10);
        Check.due("carry(0) again", x.carry(0), 0);
        Check.due("cistern 0", x.village(0, 2), 10);
        Check.due("jar of the other village", x.post(1, 4), 9);
        x.hour(3);
        Check.due("carry(1)", x.carry(1), 36);
        Check.due("cistern 1", x.village(1, 2), 36);
        Check.due("jars", x.told(10), 30);
        Check.due("carry(0)", x.carry(0), 30);
        Check.due("jars", x.told(10), 0);
        Check.due("carry(2)", x.carry(2), Check.UNKNOWN);
        Check.due("carry(-1)", x.carry(-1), Check.UNKNOWN);
        FogNets bare = new FogNets();
        Check.due("bare carry(2)", bare.carry(2), Check.UNKNOWN);
        Check.due("bare carry(1)", bare.carry(1), Check.NOT);
    }

    private static void cisternIsFull() {
        FogNets x = Check.coast("f6 0;h0 40;h0 40;p0 1 99 1;p1 1 99 1;p2 1 99 1;p3 1 99 1;p4 1 99 1;p5 1 99 1;");
        for (int i = 0; i < 168; i++) {
            x.hour(60);
            Check.due("carry(1)", x.carry(1), 594);
        }
        Check.due("cistern", x.village(1, 2), 168 * 594);
        x.hour(60);
        Check.due("carry(1) to a cistern all but full", x.carry(1), 594);
        Check.due("cistern", x.village(1, 2), 99999);
        Check.due("jars", x.told(10), 0);
    }

    private static void spilledIsFull() {
        FogNets x = Check.coast("f2 0;h0 40;h0 40;h0 40;h0 40;p0 9 1 0;p1 0 1 0;");
        for (int i = 0; i < 427; i++) Check.due("hour(60)", x.hour(60), 60 * 39);
        Check.due("spilled", x.told(11), 427 * 2340 - 2);
        x.hour(60);
        Check.due("spilled", x.told(11), 999999);
    }

    private static void lick() {
        FogNets x = Check.coast(COAST);
        x.hour(1);
        Check.due("lick(0, 1)", x.lick(0, 1), 11);
        Check.due("lick(0, 10)", x.lick(0, 10), 1);
        Check.due("lick(0, 99)", x.lick(0, 99), 0);
        Check.due("jar", x.post(0, 4), 0);
        Check.due("what was licked did not spill", x.told(11), 0);
        Check.due("lick(0, 0)", x.lick(0, 0), Check.OUTSIDE);
        Check.due("lick(0, 100)", x.lick(0, 100), Check.OUTSIDE);
        Check.due("lick(2, 0)", x.lick(2, 0), Check.UNKNOWN);
        Check.due("lick(-1, 1)", x.lick(-1, 1), Check.UNKNOWN);
        Check.due("deeds", x.told(15), 4);
    }

    private static void mesh() {
        FogNets x = Check.coast(COAST);
        Check.due("mesh(0, 9)", x.mesh(0, 9), 4);
        Check.due("mesh(0, 0)", x.mesh(0, 0), 9);
        Check.due("mesh(0, 0)", x.mesh(0, 0), 0);
        Check.due("mesh(1, 8)", x.mesh(1, 8), 2);
        Check.due("mesh(0, 10)", x.mesh(0, 10), Check.OUTSIDE);
        Check.due("mesh(0, -1)", x.mesh(0, -1), Check.OUTSIDE);
        Check.due("mesh(2, 10)", x.mesh(2, 10), Check.UNKNOWN);
        Check.due("mesh(-1, 1)", x.mesh(-1, 1), Check.UNKNOWN);
        Check.due("deeds", x.told(15), 4);
        Check.due("hour(1)", x.hour(1), 0);
    }

    private static void move() {
        FogNets x = Check.coast(COAST);
        Check.due("move(0, 4)", x.move(0, 4), 1);
        Check.due("move(0, 0)", x.move(0, 0), 4);
        Check.due("move(1, 1)", x.move(1, 1), 3);
        Check.due("move(1, 0)", x.move(1, 0), Check.NOT);
        Check.due("move(1, 1) where it is", x.move(1, 1), Check.NOT);
        Check.due("move(1, 5)", x.move(1, 5), Check.UNKNOWN);
        Check.due("move(1, -1)", x.move(1, -1), Check.UNKNOWN);
        Check.due("move(2, 0)", x.move(2, 0), Check.UNKNOWN);
        Check.due("move(-1, 3)", x.move(-1, 3), Check.UNKNOWN);
        Check.due("deeds", x.told(15), 3);
        Check.due("cells", x.post(0, 0) * 10 + x.post(1, 0), 1);
        // The jar goes with its post: the goat of cell 1 drinks of post 1 then.
        x.hour(4);
        Check.due("jar 1", x.post(1, 4), 10);
    }

    private static void lamp() {
        FogNets x = Check.coast(COAST);
        Check.due("lamp(true)", x.lamp(true), 0);
        Check.due("told(8)", x.told(8), 1);
        Check.due("lamp(true)", x.lamp(true), 1);
        Check.due("hour(1): 24 come", x.hour(1), 9);
        Check.due("hour(1): 4 come", x.hour(1), 2);
        Check.due("lamp(false)", x.lamp(false), 1);
        Check.due("told(8)", x.told(8), 0);
        Check.due("lamp(false)", x.lamp(false), 0);
        Check.due("deeds", x.told(15), 6);
        Check.due("bare lamp(true)", new FogNets().lamp(true), Check.NOT);
        FogNets y = Check.coast("f1 20;h0 19;p0 0 9 0;");
        y.lamp(true);
        Check.due("fog is no less than 0", y.hour(1), 0);
        Check.due("left()", y.left(), 0);
    }

    /** The draws as the document tells them, apart from all else. */
    private static long state;

    private static int draw(int n) {
        state = (state * 1103515245L + 12345L) % (1L << 31);
        return (int) (state / 65536 % n);
    }

    private static void driftByHand() {
        // Two posts, the lamp lit, a goat at the second post: what six drawn hours do, by many seeds.
        for (int start = 0; start < 40; start++) {
            FogNets x = Check.coast("f2 3;h1 33;h1 33;p0 4 60 0;p1 7 50 1;g1 9;");
            x.seed(start);
            x.lamp(true);
            state = start;
            int[] jar = {0, 0};
            int all = 0;
            for (int i = 0; i < 6; i++) {
                int there = Math.max(0, draw(41) - 3);
                int first = draw(2) == 0 ? 0 : 1;
                for (int k = 0; k < 2; k++) {
                    int p = k == 0 ? first : 1 - first;
                    int mesh = p == 0 ? 4 : 7;
                    int takes = there >= 20 ? there * mesh / 10 : there * (9 - mesh) / 10;
                    there -= takes;
                    all += takes;
                    jar[p] = Math.min(p == 0 ? 60 : 50, jar[p] + takes);
                }
                if (i % 2 == 1) jar[1] = Math.max(0, jar[1] - 9);
                if (draw(8) == 0) {
                    int p = draw(2);
                    jar[p] = Math.max(0, jar[p] - draw(10));
                }
            }
            Check.due("drift(6) from " + start, x.drift(6), all);
            Check.due("jar 0", x.post(0, 4), jar[0]);
            Check.due("jar 1", x.post(1, 4), jar[1]);
            Check.due("seed", x.seed(0), state);
        }
    }

    private static void drift() {
        // Without posts an hour takes two draws, and there is none of 8.
        FogNets x = Check.coast("f2 3;");
        state = 0;
        Check.due("drift(2)", x.drift(2), 0);
        for (int i = 0; i < 4; i++) draw(2);
        Check.due("seed behind 4 draws", x.seed(2147483647), state);
        Check.due("days", x.told(6), 2);
        state = 2147483647;
        x.drift(1);
        draw(41);
        draw(2);
        Check.due("seed", x.seed(0), state);
        Check.due("deeds", x.told(15), 3);
        // A drawn hour with its lick is one deed; the seed stays when it is undone.
        FogNets y = Check.coast(COAST);
        y.drift(60);
        Check.due("deeds", y.told(15), 30);
        Check.due("days", y.told(6), 30);
        Check.due("undo(30)", y.undo(30), 15);
        int seed = y.seed(0);
        Check.due("the seed is not 0", seed == 0 ? 1 : 0, 0);
    }

    private static void undo() {
        FogNets x = Check.coast(COAST);
        Check.due("undo(1) of nothing", x.undo(1), Check.NOT);
        Check.due("undo(0)", x.undo(0), Check.OUTSIDE);
        Check.due("undo(31)", x.undo(31), Check.OUTSIDE);
        Check.due("undo(-1)", x.undo(-1), Check.OUTSIDE);
        x.hour(5);
        Check.due("told(15)", x.told(15), 5);
        Check.due("undo(6)", x.undo(6), Check.NOT);
        Check.due("undo(2)", x.undo(2), 1);
        Check.due("told(15)", x.told(15), 3);
        Check.due("hour", x.told(7), 1);
        Check.due("undo(3)", x.undo(3), 0);
        Check.due("told(15)", x.told(15), 0);
        x.hour(45);
        Check.due("told(15)", x.told(15), 30);
        Check.due("undo(30)", x.undo(30), 7);
        Check.due("hour", x.told(7), 1);
        Check.due("undo(1)", x.undo(1), Check.NOT);
        x.hour(20);
        x.undo(5);
        x.hour(20);
        Check.due("told(15)", x.told(15), 30);
        Check.due("undo(29)", x.undo(29), 10);
        Check.due("hour behind 45 - 30 + 6", x.told(7), 1);
    }

    private static void undoEach() {
        FogNets x = Check.coast(COAST);
        x.hour(3);
        x.got(0, 0, 4);
        x.write(0, 1);
        String was = Seen.all(x).replace("told15=3 ", "");
        x.carry(0);
        x.carry(1);
        x.hour(1);
        x.lick(0, 3);
        x.mesh(1, 9);
        x.move(1, 0);
        x.lamp(true);
        x.drift(1);
        Check.due("told(15)", x.told(15), 11);
        int seed = x.seed(0);
        x.seed(seed);
        Check.due("undo(8)", x.undo(8), 1);
        Check.due("all is as ahead of them", was.equals(Seen.all(x).replace("told15=3 ", "")) ? 1 : 0, 1);
        Check.due("the seed stays", x.seed(0), seed);
        Check.due("got stays", x.told(13), 1);
        Check.due("the book stays", x.told(14), 1);
    }
}
