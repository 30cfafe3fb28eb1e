/** Promises 18 to 33: what is tried from now, and what is counted. */
public final class TriedTest {
    private static final String COAST = CoastTest.COAST;

    public static void main(String[] args) {
        gets();
        level();
        shadow();
        left();
        bestMesh();
        bestCell();
        bestTwo();
        lampCosts();
        thirsty();
        lasts();
        bothAndApart();
        share();
        led();
        yards();
        clear();
        nothingChanges();
        Check.end();
    }

    private static void gets() {
        FogNets x = Check.coast(COAST);
        Check.due("gets(0, 0)", x.gets(0, 0), 0);
        Check.due("gets(0, 1)", x.gets(0, 1), 12);
        Check.due("gets(0, 2)", x.gets(0, 2), 17);
        Check.due("gets(0, 4)", x.gets(0, 4), 17);
        Check.due("gets(0, 6)", x.gets(0, 6), 30);
        Check.due("gets(1, 1)", x.gets(1, 1), 0);
        Check.due("gets(1, 6)", x.gets(1, 6), 32);
        Check.due("gets(1, 98)", x.gets(1, 98), 7 * 32);
        Check.due("gets(0, 99)", x.gets(0, 99), 7 * 30 + 12);
        x.hour(1);
        Check.due("gets(0, 1)", x.gets(0, 1), 5);
        x.lamp(true);
        Check.due("gets(0, 1) by lamp", x.gets(0, 1), 2);
        Check.due("gets(0, -1)", x.gets(0, -1), Check.OUTSIDE);
        Check.due("gets(0, 100)", x.gets(0, 100), Check.OUTSIDE);
        Check.due("gets(2, 100)", x.gets(2, 100), Check.UNKNOWN);
        Check.due("gets(-1, 1)", x.gets(-1, 1), Check.UNKNOWN);
    }

    private static void level() {
        FogNets x = Check.coast(COAST);
        int[] first = {0, 12, 12, 12, 9, 15, 12};
        int[] second = {0, 0, 0, 6, 0, 12, 0};
        for (int n = 0; n < first.length; n++) {
            Check.due("level(0, " + n + ")", x.level(0, n), first[n]);
            Check.due("level(1, " + n + ")", x.level(1, n), second[n]);
        }
        x.hour(1);
        Check.due("level(0, 0)", x.level(0, 0), 12);
        Check.due("level(0, 99)", x.level(0, 99), 15 - 3);
        Check.due("level(0, -1)", x.level(0, -1), Check.OUTSIDE);
        Check.due("level(0, 100)", x.level(0, 100), Check.OUTSIDE);
        Check.due("level(2, 100)", x.level(2, 100), Check.UNKNOWN);
        Check.due("level(-1, 1)", x.level(-1, 1), Check.UNKNOWN);
    }

    private static void shadow() {
        FogNets x = Check.coast(COAST);
        Check.due("shadow(0) of one alone", x.shadow(0), 0);
        Check.due("shadow(1) of one that does not hang", x.shadow(1), 0);
        x.hour(4);
        Check.due("shadow(0) of the first", x.shadow(0), 0);
        Check.due("shadow(1): 6 of 30, 12 of 18", x.shadow(1), -6);
        x.lamp(true);
        Check.due("shadow(1): 4 of 24, 10 of 15", x.shadow(1), -6);
        x.lamp(false);
        x.hour(1);
        Check.due("shadow(0): 5 of 10, 1 of 3", x.shadow(0), 4);
        Check.due("shadow(1) of the first", x.shadow(1), 0);
        x.lamp(true);
        Check.due("shadow(0): 2 of 4, 1 of 2", x.shadow(0), 1);
        Check.due("shadow(2)", x.shadow(2), Check.UNKNOWN);
        Check.due("shadow(-1)", x.shadow(-1), Check.UNKNOWN);
        Check.due("bare shadow(0)", new FogNets().shadow(0), Check.UNKNOWN);
    }

    private static void left() {
        FogNets x = Check.coast(COAST);
        Check.due("left()", x.left(), 18);
        x.hour(1);
        Check.due("left()", x.left(), 5);
        x.hour(1);
        Check.due("left()", x.left(), 24);
        x.hour(2);
        Check.due("left()", x.left(), 6);
        x.lamp(true);
        Check.due("left() by lamp", x.left(), 5);
        x.hour(1);
        Check.due("left() by lamp", x.left(), 1);
        x.lamp(false);
        x.hour(1);
        Check.due("left() while none hangs", x.left(), 30);
        Check.due("bare left()", new FogNets().left(), Check.NOT);
        Check.due("left() without fog", Check.coast("f1 0;").left(), 0);
    }

    private static void bestMesh() {
        FogNets x = Check.coast(COAST);
        // 3M of 30, 9 less M of 10.
        Check.due("bestMesh(0, 0)", x.bestMesh(0, 0), 9);
        Check.due("bestMesh(0, 1)", x.bestMesh(0, 1), 27);
        Check.due("bestMesh(1, 0) of one that does not hang", x.bestMesh(1, 0), 0);
        Check.due("bestMesh(1, 1)", x.bestMesh(1, 1), 0);
        x.hour(1);
        // This day's 10; on the next day it does not hang.
        Check.due("bestMesh(0, 0)", x.bestMesh(0, 0), 0);
        Check.due("bestMesh(0, 1)", x.bestMesh(0, 1), 9);
        // Nothing now, but 30 on the next day.
        Check.due("bestMesh(1, 0)", x.bestMesh(1, 0), 9);
        Check.due("bestMesh(1, 1)", x.bestMesh(1, 1), 27);
        Check.due("bestMesh(0, 2)", x.bestMesh(0, 2), Check.OUTSIDE);
        Check.due("bestMesh(0, -1)", x.bestMesh(0, -1), Check.OUTSIDE);
        Check.due("bestMesh(2, 2)", x.bestMesh(2, 2), Check.UNKNOWN);
        Check.due("bestMesh(-1, 0)", x.bestMesh(-1, 0), Check.UNKNOWN);
        // Of fog 5: 4, 4, 3, 3, 2, ..: of like ones the least.
        FogNets y = Check.coast("f1 0;h1 5;p0 7 1 0;");
        Check.due("bestMesh(0, 0)", y.bestMesh(0, 0), 0);
        Check.due("bestMesh(0, 1)", y.bestMesh(0, 1), 4);
    }

    private static void bestCell() {
        FogNets x = Check.coast(COAST);
        Check.due("bestCell(0, 0) of like ones", x.bestCell(0, 0), 0);
        Check.due("bestCell(0, 1)", x.bestCell(0, 1), 17);
        x.hour(4);
        // Ahead of the other: 12 and 1; in cell 4: 9 of 24 and 5.
        Check.due("bestCell(0, 0)", x.bestCell(0, 0), 4);
        Check.due("bestCell(0, 1)", x.bestCell(0, 1), 14);
        // Where it is: 12 and 7; first from the left: 6 and 3.
        Check.due("bestCell(1, 0)", x.bestCell(1, 0), 2);
        Check.due("bestCell(1, 1)", x.bestCell(1, 1), 19);
        x.move(1, 2);
        Check.due("bestCell(1, 0) where it is", x.bestCell(1, 0), 2);
        x.move(0, 0);
        Check.due("bestCell(1, 0)", x.bestCell(1, 0), 1);
        Check.due("bestCell(0, 2)", x.bestCell(0, 2), Check.OUTSIDE);
        Check.due("bestCell(0, -1)", x.bestCell(0, -1), Check.OUTSIDE);
        Check.due("bestCell(2, 2)", x.bestCell(2, 2), Check.UNKNOWN);
        Check.due("bestCell(-1, 0)", x.bestCell(-1, 0), Check.UNKNOWN);
        // One cell: there is its own alone.
        FogNets y = Check.coast("f1 0;h0 40;p0 9 1 0;");
        Check.due("bestCell(0, 0)", y.bestCell(0, 0), 0);
        Check.due("bestCell(0, 1)", y.bestCell(0, 1), 36);
        // No cell is free: its own.
        FogNets z = Check.coast("f2 0;h0 40;p0 9 1 0;p1 9 1 0;");
        Check.due("bestCell(1, 0)", z.bestCell(1, 0), 1);
        Check.due("bestCell(1, 1)", z.bestCell(1, 1), 0);
    }

    private static void bestTwo() {
        FogNets x = Check.coast(COAST);
        // Post 0 left of post 1: 30 and 32 in 7 days; right of it: 31 and 22.
        Check.due("bestTwo(0, 1, 0)", x.bestTwo(0, 1, 0), 1);
        Check.due("bestTwo(0, 1, 1)", x.bestTwo(0, 1, 1), 30);
        Check.due("bestTwo(1, 0, 0)", x.bestTwo(1, 0, 0), 100);
        Check.due("bestTwo(1, 0, 1)", x.bestTwo(1, 0, 1), 30);
        x.hour(1);
        // As many hours from a later one on: the same in another order.
        Check.due("bestTwo(0, 1, 1)", x.bestTwo(0, 1, 1), 30);
        Check.due("bestTwo(0, 0, 0)", x.bestTwo(0, 0, 0), Check.UNKNOWN);
        Check.due("bestTwo(0, 2, 9)", x.bestTwo(0, 2, 9), Check.UNKNOWN);
        Check.due("bestTwo(2, 0, 0)", x.bestTwo(2, 0, 0), Check.UNKNOWN);
        Check.due("bestTwo(-1, 0, 0)", x.bestTwo(-1, 0, 0), Check.UNKNOWN);
        Check.due("bestTwo(0, 1, 2)", x.bestTwo(0, 1, 2), Check.OUTSIDE);
        Check.due("bestTwo(0, 1, -1)", x.bestTwo(0, 1, -1), Check.OUTSIDE);
        // A third stands in cell 0; one village has no net: the lesser is 0 wherever they are.
        FogNets y = Check.coast("f4 0;h0 40;p2 9 1 0;p0 9 1 0;p3 9 1 0;");
        Check.due("bestTwo(0, 2, 0)", y.bestTwo(0, 2, 0), 102);
        Check.due("bestTwo(0, 2, 1)", y.bestTwo(0, 2, 1), 0);
        // They may change places: what is left of 40 by mesh 9 is 4; by mesh 5 it is 20.
        FogNets z = Check.coast("f2 0;h0 40;p0 9 1 0;p1 5 1 1;");
        Check.due("bestTwo(0, 1, 0)", z.bestTwo(0, 1, 0), 100);
        Check.due("bestTwo(0, 1, 1)", z.bestTwo(0, 1, 1), 7 * 18);
    }

    private static void lampCosts() {
        FogNets x = Check.coast(COAST);
        Check.due("lampCosts(0)", x.lampCosts(0), 0);
        Check.due("lampCosts(1)", x.lampCosts(1), 3);
        Check.due("lampCosts(2)", x.lampCosts(2), 6);
        x.lamp(true);
        Check.due("lampCosts(2) while it is lit", x.lampCosts(2), 6);
        // Day 1: 6 less 4, 7 less 2.
        Check.due("lampCosts(4)", x.lampCosts(4), 13);
        Check.due("lampCosts(99)", x.lampCosts(99) > 13 ? 1 : 0, 1);
        Check.due("lampCosts(-1)", x.lampCosts(-1), Check.OUTSIDE);
        Check.due("lampCosts(100)", x.lampCosts(100), Check.OUTSIDE);
        // 21 are THICK for a wide mesh: 2; by lamp 16 are thin: 12.
        FogNets y = Check.coast("f1 5;h0 21;p0 1 1 0;");
        Check.due("lampCosts(1)", y.lampCosts(1), -10);
        FogNets bare = new FogNets();
        Check.due("bare lampCosts(100)", bare.lampCosts(100), Check.OUTSIDE);
        Check.due("bare lampCosts(1)", bare.lampCosts(1), Check.NOT);
    }

    private static void thirsty() {
        FogNets x = Check.coast(COAST);
        Check.due("thirsty(0): what is used in a week just comes", x.thirsty(0), Check.NONE);
        Check.due("thirsty(1)", x.thirsty(1), 1);
        x.hour(1);
        x.lick(0, 12);
        // 5 today less 4, then 1 is too few.
        Check.due("thirsty(0)", x.thirsty(0), 2);
        Check.due("thirsty(2)", x.thirsty(2), Check.UNKNOWN);
        Check.due("thirsty(-1)", x.thirsty(-1), Check.UNKNOWN);
        FogNets bare = new FogNets();
        Check.due("bare thirsty(2)", bare.thirsty(2), Check.UNKNOWN);
        Check.due("bare thirsty(0)", bare.thirsty(0), Check.NOT);
        // Jars are carried ahead of the goat.
        FogNets y = Check.coast("f1 0;h0 10;p0 0 99 0;u9 0;g0 20;");
        Check.due("thirsty(0)", y.thirsty(0), Check.NONE);
        Check.due("thirsty(1)", y.thirsty(1), Check.NONE);
        // 9 on day 0 of a week, 2 a day: the fifth day's end.
        Check.due("thirsty(0)", Check.coast("f1 0;h0 10;p0 0 99 0;d1 0;u2 0;").thirsty(0), 5);
        Check.due("thirsty(1)", Check.coast("f1 0;h0 10;p0 0 99 1;d0 1;u0 2;").thirsty(1), 5);
        // 60 days' ends are looked at: 59 gills last 59 days, 60 too long.
        FogNets z = Check.coast("f1 0;h0 10;p0 0 99 0;u1 0;");
        z.hour(7);
        z.mesh(0, 9);
        z.lick(0, 3);
        z.carry(0);
        Check.due("thirsty(0) with 60", z.thirsty(0), Check.NONE);
        z.undo(2);
        z.lick(0, 4);
        z.carry(0);
        Check.due("thirst is there", z.village(0, 3), 7);
        Check.due("thirsty(0) with 59", z.thirsty(0), 60);
        // Twelve hours a day: 60 days' ends are 720 hours.
        FogNets w = Check.coast("f1 0;h0 10;h0 0;h0 0;h0 0;h0 0;h0 0;h0 0;h0 0;h0 0;h0 0;h0 0;h0 0;p0 0 99 0;u1 0;");
        for (int i = 0; i < 7; i++) w.hour(12);
        w.mesh(0, 9);
        w.lick(0, 4);
        w.carry(0);
        Check.due("thirsty(0) with 59", w.thirsty(0), 60);
    }

    private static void lasts() {
        FogNets x = Check.coast("f1 0;h0 10;p0 0 99 0;u4 0;");
        Check.due("lasts(0) of nothing", x.lasts(0), 0);
        Check.due("lasts(1) without use", x.lasts(1), 999);
        x.hour(1);
        x.carry(0);
        Check.due("lasts(0)", x.lasts(0), 2);
        Check.due("lasts(2)", x.lasts(2), Check.UNKNOWN);
        Check.due("lasts(-1)", x.lasts(-1), Check.UNKNOWN);
        Check.due("bare lasts(0)", new FogNets().lasts(0), 999);
        Check.due("bare lasts(2)", new FogNets().lasts(2), Check.UNKNOWN);
        FogNets y = Check.coast("f6 0;h0 40;h0 0;h0 0;h0 0;h0 0;h0 0;p0 9 99 0;u0 1;p1 0 99 1;p2 0 99 1;");
        for (int i = 0; i < 200; i++) {
            y.hour(30);
            y.carry(1);
        }
        // 15 in 5 days, of which 5 are used behind the first carrying.
        Check.due("cistern", y.village(1, 2), 15 + 199 * 10);
        Check.due("lasts(1)", y.lasts(1), 999);
    }

    private static void bothAndApart() {
        FogNets x = Check.coast(COAST);
        Check.due("both()", x.both(), 2);
        Check.due("apart(0)", x.apart(0), 0);
        Check.due("apart(1)", x.apart(1), 1);
        Check.due("apart(3)", x.apart(3), 2);
        Check.due("apart(7)", x.apart(7), 2);
        Check.due("apart(99)", x.apart(99), 29);
        x.hour(3);
        Check.due("both() on day 1", x.both(), 1);
        Check.due("apart(1) on day 1", x.apart(1), 1);
        x.hour(1);
        Check.due("both() on day 2", x.both(), 0);
        Check.due("apart(5) on day 2", x.apart(5), 0);
        x.hour(2);
        Check.due("both() on day 3", x.both(), 6);
        Check.due("apart(99) on day 3", x.apart(99), 28);
        Check.due("apart(-1)", x.apart(-1), Check.OUTSIDE);
        Check.due("apart(100)", x.apart(100), Check.OUTSIDE);
        Check.due("both() never", Check.coast("f1 0;d85 42;").both(), Check.NONE);
        Check.due("apart(7) always", Check.coast("f1 0;d85 42;").apart(7), 7);
        Check.due("both() untold", Check.coast("f1 0;").both(), 0);
        FogNets bare = new FogNets();
        Check.due("bare both()", bare.both(), Check.NOT);
        Check.due("bare apart(100)", bare.apart(100), Check.OUTSIDE);
        Check.due("bare apart(1)", bare.apart(1), Check.NOT);
    }

    private static void share() {
        FogNets x = Check.coast(COAST);
        Check.due("share(5, 0) of like ones", x.share(5, 0), 3);
        Check.due("share(5, 1) of like ones", x.share(5, 1), 2);
        Check.due("share(0, 0)", x.share(0, 0), 0);
        Check.due("share(999, 1)", x.share(999, 1), 499);
        FogNets y = Check.coast("f3 0;p0 0 1 0;p1 0 1 1;p2 0 1 0;");
        int[][] want = {{0, 0}, {1, 0}, {1, 1}, {2, 1}, {3, 1}, {3, 2}, {4, 2}};
        for (int n = 0; n < want.length; n++) {
            Check.due("share(" + n + ", 0) of two to one", y.share(n, 0), want[n][0]);
            Check.due("share(" + n + ", 1) of two to one", y.share(n, 1), want[n][1]);
        }
        Check.due("share(7, 0) of none", Check.coast("f1 0;p0 0 1 1;").share(7, 0), 0);
        Check.due("share(7, 1) of all", Check.coast("f1 0;p0 0 1 1;").share(7, 1), 7);
        Check.due("share(7, 0) without posts", Check.coast("f1 0;").share(7, 0), 0);
        Check.due("bare share(7, 1)", new FogNets().share(7, 1), 0);
        Check.due("share(-1, 0)", x.share(-1, 0), Check.OUTSIDE);
        Check.due("share(1000, 0)", x.share(1000, 0), Check.OUTSIDE);
        Check.due("share(1000, 2)", x.share(1000, 2), Check.UNKNOWN);
        Check.due("share(1, -1)", x.share(1, -1), Check.UNKNOWN);
    }

    private static void led() {
        FogNets x = Check.coast(COAST);
        x.hour(4);
        x.lamp(true);
        for (int i = 0; i < 30; i++) {
            Check.due("led(30, 0, " + i + ")", x.led(30, 0, i), i < 12 ? 0 : i < 24 ? 1 : Check.NONE);
            Check.due("led(30, 1, " + i + ")", x.led(30, 1, i), i < 6 ? 1 : i < 15 ? 0 : Check.NONE);
        }
        Check.due("led(99, 0, 38)", x.led(99, 0, 38), 0);
        Check.due("led(99, 0, 39): 60 come", x.led(99, 0, 39), 1);
        Check.due("led(99, 0, 50)", x.led(99, 0, 50), 1);
        Check.due("led(99, 0, 51)", x.led(99, 0, 51), Check.NONE);
        Check.due("led(1, 0, 0)", x.led(1, 0, 0), Check.NONE);
        Check.due("led(100, 0, 0)", x.led(100, 0, 0), Check.OUTSIDE);
        Check.due("led(-1, 0, 0)", x.led(-1, 0, 0), Check.OUTSIDE);
        Check.due("led(0, 0, 0)", x.led(0, 0, 0), Check.OUTSIDE);
        Check.due("led(30, 2, 0)", x.led(30, 2, 0), Check.OUTSIDE);
        Check.due("led(30, -1, 0)", x.led(30, -1, 0), Check.OUTSIDE);
        Check.due("led(30, 0, 30)", x.led(30, 0, 30), Check.OUTSIDE);
        Check.due("led(30, 0, -1)", x.led(30, 0, -1), Check.OUTSIDE);
        x.hour(2);
        Check.due("led(30, 0, 0) while none hangs", x.led(30, 0, 0), Check.NONE);
        FogNets bare = new FogNets();
        Check.due("bare led(30, 0, 0)", bare.led(30, 0, 0), Check.NOT);
        Check.due("bare led(30, 0, 30)", bare.led(30, 0, 30), Check.OUTSIDE);
    }

    private static void yards() {
        FogNets x = Check.coast(COAST);
        Check.due("yards(0, 0) of empty jars", x.yards(0, 0), Check.NONE);
        Check.due("yards(0, 1) of empty jars", x.yards(0, 1), Check.NONE);
        x.hour(1);
        Check.due("yards(0, 0)", x.yards(0, 0), 0);
        Check.due("yards(0, 1)", x.yards(0, 1), 0);
        Check.due("yards(1, 0)", x.yards(1, 0), 2);
        Check.due("yards(1, 1)", x.yards(1, 1), 0);
        Check.due("yards(1, 2)", x.yards(1, 2), Check.OUTSIDE);
        Check.due("yards(1, -1)", x.yards(1, -1), Check.OUTSIDE);
        Check.due("yards(2, 2)", x.yards(2, 2), Check.UNKNOWN);
        Check.due("yards(-1, 0)", x.yards(-1, 0), Check.UNKNOWN);
        // Posts 0, 1, 2 in cells 6, 2, 8; the goats in 4, 7, 11.
        FogNets y = Check.coast("f12 0;h0 40;h0 0;p6 5 99 0;p2 5 99 1;p8 5 99 0;g4 1;g7 1;g11 1;");
        y.hour(1);
        Check.due("yards(0, 0)", y.yards(0, 0), 2);
        Check.due("yards(0, 1) of like ones", y.yards(0, 1), 1);
        Check.due("yards(1, 0)", y.yards(1, 0), 1);
        Check.due("yards(1, 1) of like ones", y.yards(1, 1), 0);
        Check.due("yards(2, 0)", y.yards(2, 0), 3);
        Check.due("yards(2, 1)", y.yards(2, 1), 2);
        y.carry(0);
        Check.due("yards(2, 0)", y.yards(2, 0), 9);
        Check.due("yards(2, 1)", y.yards(2, 1), 1);
        y.move(1, 10);
        Check.due("yards(2, 0)", y.yards(2, 0), 1);
        Check.due("yards(0, 0)", y.yards(0, 0), 6);
    }

    private static void clear() {
        FogNets x = new FogNets();
        Check.due("clear(0, 0)", x.clear(0, 0), 1000000000);
        Check.due("clear(1, 0)", x.clear(1, 0), 0);
        Check.due("clear(60, 100)", x.clear(60, 100), 1000000000);
        Check.due("clear(3, 50)", x.clear(3, 50), 125000000);
        // 1000000000, 330000000, 108900000, 35937000, 11859210, 3913539, 1291467: cut each time.
        Check.due("clear(6, 33)", x.clear(6, 33), 1291467);
        Check.due("clear(60, 33)", x.clear(60, 33), 0);
        Check.due("clear(61, 50)", x.clear(61, 50), Check.OUTSIDE);
        Check.due("clear(-1, 50)", x.clear(-1, 50), Check.OUTSIDE);
        Check.due("clear(1, 101)", x.clear(1, 101), Check.OUTSIDE);
        Check.due("clear(1, -1)", x.clear(1, -1), Check.OUTSIDE);
    }

    private static void nothingChanges() {
        FogNets x = Check.coast(COAST);
        x.hour(3);
        x.write(0, 9);
        x.got(0, 0, 1);
        String was = Seen.all(x);
        x.gets(0, 50);
        x.level(1, 50);
        x.shadow(0);
        x.left();
        x.bestMesh(0, 0);
        x.bestCell(0, 0);
        x.bestTwo(0, 1, 0);
        x.lampCosts(9);
        x.thirsty(0);
        x.lasts(0);
        x.both();
        x.apart(9);
        x.share(9, 0);
        x.led(9, 0, 1);
        x.yards(0, 0);
        x.clear(9, 9);
        x.thick(0);
        x.lookAt(0);
        x.needs(0, 0, 3);
        x.judge();
        Check.due("nothing changes by what is tried", was.equals(Seen.all(x)) ? 1 : 0, 1);
        Check.due("seed", x.seed(0), 0);
    }
}
