/** Promises 34 to 40: how thick it was, how thick it must be, the book. */
public final class ThicknessTest {
    private static final String COAST = CoastTest.COAST;

    public static void main(String[] args) {
        got();
        thick();
        lookAt();
        needs();
        book();
        tear();
        Check.end();
    }

    private static void got() {
        FogNets x = Check.coast(COAST);
        Check.due("got(2, 2, 99)", x.got(2, 2, 99), Check.UNKNOWN);
        Check.due("got(-1, 0, 0)", x.got(-1, 0, 0), Check.UNKNOWN);
        Check.due("got(0, 2, 0)", x.got(0, 2, 0), Check.OUTSIDE);
        Check.due("got(0, -1, 0)", x.got(0, -1, 0), Check.OUTSIDE);
        Check.due("got(0, 0, 41)", x.got(0, 0, 41), Check.OUTSIDE);
        Check.due("got(0, 0, -1)", x.got(0, 0, -1), Check.OUTSIDE);
        for (int n = 1; n <= 6; n++) Check.due("got(1, 1, 40)", x.got(1, 1, 40), n);
        Check.due("told(13)", x.told(13), 6);
        Check.due("got(0, 0, 0)", x.got(0, 0, 0), Check.FULL);
        Check.due("got(0, 0, 41)", x.got(0, 0, 41), Check.OUTSIDE);
        Check.due("got(2, 0, 0)", x.got(2, 0, 0), Check.UNKNOWN);
        Check.due("bare got(0, 0, 0)", new FogNets().got(0, 0, 0), Check.UNKNOWN);
        Check.due("deeds", x.told(15), 0);
    }

    private static void dueThick(FogNets x, String when, int many, int least, int most) {
        Check.due("thick(0) " + when, x.thick(0), many);
        Check.due("thick(1) " + when, x.thick(1), least);
        Check.due("thick(2) " + when, x.thick(2), most);
    }

    private static void thick() {
        FogNets x = Check.coast(COAST);
        dueThick(x, "of nothing got", 41, 0, 40);
        x.got(0, 0, 9);
        // Thin: 18, 19. THICK: 23, 24.
        dueThick(x, "of 9", 4, 18, 24);
        x.lamp(true);
        dueThick(x, "of 9 by lamp", 4, 18, 24);
        x.got(0, 1, 9);
        dueThick(x, "of 9 twice", 4, 18, 24);
        x.got(0, 1, 8);
        dueThick(x, "of 9 and 8", 0, Check.NONE, Check.NONE);
        x.tear();
        x.got(0, 1, 16);
        dueThick(x, "of 16", 1, 40, 40);
        x.tear();
        x.got(0, 1, 0);
        dueThick(x, "of 0", 2, 0, 1);
        x.mesh(0, 9);
        dueThick(x, "of 0 by another mesh", 20, 0, 19);
        x.tear();
        x.got(1, 0, 0);
        dueThick(x, "of one that does not hang", 41, 0, 40);
        x.tear();
        x.got(1, 0, 12);
        dueThick(x, "of one that does not hang", 0, Check.NONE, Check.NONE);
        x.mesh(0, 4);
        x.hour(4);
        // Day 2: behind post 0 it takes 12 of 18 at 30, of 31 (12, 19) 13; thin ones have no such.
        dueThick(x, "of 12 on day 2", 2, 29, 30);
        Check.due("thick(3)", x.thick(3), Check.OUTSIDE);
        Check.due("thick(-1)", x.thick(-1), Check.OUTSIDE);
        FogNets bare = new FogNets();
        Check.due("bare thick(3)", bare.thick(3), Check.OUTSIDE);
        Check.due("bare thick(0)", bare.thick(0), Check.NOT);
    }

    private static void lookAt() {
        FogNets x = Check.coast(COAST);
        Check.due("lookAt(0)", x.lookAt(0), 0);
        x.got(0, 0, 9);
        Check.due("lookAt(0): nothing parts 18, 19, 23, 24", x.lookAt(0), Check.NONE);
        x.hour(2);
        Check.due("lookAt(0): post 0 does not hang, so that none fits", x.lookAt(0), Check.NONE);
        x.hour(2);
        // From the left post 1 takes 6, 7, 9, 10 of them: each alone.
        Check.due("lookAt(0)", x.lookAt(0), 1);
        // From the right it takes 12, 13, 4, 4, and post 0 behind it 3, 3, 9, 8: 2 at most by both.
        Check.due("lookAt(1) of like ones", x.lookAt(1), 0);
        x.lamp(true);
        Check.due("lookAt(0) by lamp", x.lookAt(0), 1);
        Check.due("lookAt(2)", x.lookAt(2), Check.OUTSIDE);
        Check.due("lookAt(-1)", x.lookAt(-1), Check.OUTSIDE);
        x.tear();
        x.got(0, 0, 16);
        Check.due("lookAt(0): one can't be parted", x.lookAt(0), Check.NONE);
        FogNets bare = new FogNets();
        Check.due("bare lookAt(2)", bare.lookAt(2), Check.OUTSIDE);
        Check.due("bare lookAt(0)", bare.lookAt(0), Check.NOT);
        Check.due("lookAt(0) without posts", Check.coast("f1 0;").lookAt(0), Check.NONE);
    }

    private static void needs() {
        FogNets x = Check.coast(COAST);
        x.lamp(true);
        Check.due("needs(0, 0, 0)", x.needs(0, 0, 0), 0);
        Check.due("needs(0, 0, 1)", x.needs(0, 0, 1), 2);
        Check.due("needs(0, 0, 9)", x.needs(0, 0, 9), 18);
        Check.due("needs(0, 0, 10)", x.needs(0, 0, 10), 25);
        Check.due("needs(0, 1, 16)", x.needs(0, 1, 16), 40);
        Check.due("needs(0, 0, 17)", x.needs(0, 0, 17), Check.NONE);
        Check.due("needs(0, 0, 40)", x.needs(0, 0, 40), Check.NONE);
        Check.due("needs(1, 0, 0) of one that does not hang", x.needs(1, 0, 0), 0);
        Check.due("needs(1, 0, 1) of one that does not hang", x.needs(1, 0, 1), Check.NONE);
        x.hour(4);
        Check.due("needs(1, 0, 7): behind post 0", x.needs(1, 0, 7), 19);
        Check.due("needs(1, 1, 7)", x.needs(1, 1, 7), 10);
        Check.due("needs(0, 2, 0)", x.needs(0, 2, 0), Check.OUTSIDE);
        Check.due("needs(0, -1, 0)", x.needs(0, -1, 0), Check.OUTSIDE);
        Check.due("needs(0, 0, 41)", x.needs(0, 0, 41), Check.OUTSIDE);
        Check.due("needs(0, 0, -1)", x.needs(0, 0, -1), Check.OUTSIDE);
        Check.due("needs(2, 2, 41)", x.needs(2, 2, 41), Check.UNKNOWN);
        Check.due("needs(-1, 0, 0)", x.needs(-1, 0, 0), Check.UNKNOWN);
    }

    private static void book() {
        FogNets x = Check.coast(COAST);
        Check.due("judge() of no book", x.judge(), Check.NONE);
        Check.due("bare judge()", new FogNets().judge(), Check.NONE);
        Check.due("write(2, 100)", x.write(2, 100), Check.UNKNOWN);
        Check.due("write(-1, 0)", x.write(-1, 0), Check.UNKNOWN);
        Check.due("write(0, 100)", x.write(0, 100), Check.OUTSIDE);
        Check.due("write(0, -1)", x.write(0, -1), Check.OUTSIDE);
        Check.due("write(0, 0)", x.write(0, 0), 1);
        Check.due("write(0, 12)", x.write(0, 12), 2);
        Check.due("write(1, 0)", x.write(1, 0), 3);
        Check.due("judge()", x.judge(), 1);
        x.hour(1);
        Check.due("judge()", x.judge(), 0);
        x.undo(1);
        Check.due("judge()", x.judge(), 1);
        x.tear();
        x.write(1, 0);
        x.write(0, 12);
        x.hour(1);
        Check.due("judge()", x.judge(), Check.NONE);
        for (int n = 3; n <= 19; n++) Check.due("write(0, 12)", x.write(0, 12), n);
        Check.due("write(0, 99)", x.write(0, 99), 20);
        Check.due("judge()", x.judge(), 19);
        Check.due("write(0, 12)", x.write(0, 12), Check.FULL);
        Check.due("write(0, 100)", x.write(0, 100), Check.OUTSIDE);
        Check.due("write(2, 0)", x.write(2, 0), Check.UNKNOWN);
        Check.due("told(14)", x.told(14), 20);
        Check.due("deeds", x.told(15), 1);
    }

    private static void tear() {
        FogNets x = Check.coast(COAST);
        Check.due("tear() of nothing", x.tear(), 0);
        Check.due("bare tear()", new FogNets().tear(), 0);
        x.got(0, 0, 1);
        x.got(0, 0, 2);
        x.write(0, 5);
        Check.due("tear()", x.tear(), 3);
        Check.due("told(13)", x.told(13), 0);
        Check.due("told(14)", x.told(14), 0);
        Check.due("thick(0)", x.thick(0), 41);
        Check.due("judge()", x.judge(), Check.NONE);
        Check.due("got(0, 0, 0)", x.got(0, 0, 0), 1);
        Check.due("tear()", x.tear(), 1);
    }
}
