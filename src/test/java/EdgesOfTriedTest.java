/**
 * Each boundary that section 3 of the document names of what is TRIED and counted (GETS to CLEAR), and
 * promises 18 to 33, sentence by sentence. What a test is called begins with the document's words.
 */
public final class EdgesOfTriedTest {
    private static final String COAST = "coast<" + CoastTest.COAST + "> ";
    /** A day of twelve hours: fog of 10 in the first one, of 20 in the last one. */
    private static final String LONG_DAY = "coast<f1 0;h0 10;h0 0;h0 0;h0 0;h0 0;h0 0;h0 0;h0 0;h0 0;h0 0;h0 0;h0 20;p0 0 99 0;";

    public static void main(String[] args) {
        gets();
        level();
        shadow();
        left();
        bestMesh();
        bestCell();
        bestTwo();
        bestTwoOfLikeOnes();
        lampCosts();
        thirsty();
        thirstyBounds();
        lasts();
        both();
        apart();
        share();
        led();
        yards();
        clear();
        nothingChangesByIt();
        Check.end();
    }

    private static void edge(String sentence, String told) {
        Script.edge(sentence, told);
    }

    private static void gets() {
        edge("GETS in the next n HOURS (0 .. 99): the least", COAST + "gets(0,0)=0 gets(1,0)=0");
        edge("GETS in the next n HOURS (0 .. 99): one", COAST + "gets(0,1)=12 gets(1,1)=0");
        // 17 of day 0, 13 of day 2, and so in each week of 14 hours; the 99th hour is the first of day 0.
        edge("GETS in the next n HOURS (0 .. 99): the greatest", COAST + "gets(0,98)=210 gets(0,99)=222");
        edge("GETS in the next n HOURS (0 .. 99): one below", COAST + "gets(0,-1)=OUTSIDE gets(0,MIN)=OUTSIDE");
        edge("GETS in the next n HOURS (0 .. 99): one above", COAST + "gets(0,100)=OUTSIDE gets(0,MAX)=OUTSIDE");
        edge("GETS: UNKNOWN", COAST + "gets(2,1)=UNKNOWN gets(-1,1)=UNKNOWN");
        edge("GETS: UNKNOWN comes ahead of OUTSIDE", COAST + "gets(2,100)=UNKNOWN gets(-1,-1)=UNKNOWN");
        edge("GETS: UNKNOWN without POSTS", "gets(0,1)=UNKNOWN coast<f1 0;>=0 gets(0,1)=UNKNOWN");
        edge("GETS: what SPILLS is taken too", "coast<f1 0;h0 10;p0 0 1 0;>=1 gets(0,99)=891 hour(5)=45 gets(0,99)=891");
        edge("GETS: over the week's end", "coast<f1 0;h0 10;p0 0 9 0;d1 0;>=1 hour(6)=9 gets(0,1)=0 gets(0,2)=9 gets(0,8)=9 "
            + "gets(0,9)=18");
        edge("GETS: with the LAMP as it is", "coast<f1 5;h0 10;p0 0 9 0;>=1 gets(0,2)=18 lamp(true)=0 gets(0,2)=8");
    }

    private static void level() {
        edge("LEVEL behind n HOURS (0 .. 99): the least", COAST + "level(0,0)=0 hour(1)=12 level(0,0)=12");
        edge("LEVEL behind n HOURS (0 .. 99): one", COAST + "level(0,1)=12 hour(1)=12 level(0,1)=12");
        edge("LEVEL behind n HOURS (0 .. 99): the greatest", "coast<f1 0;h0 1;p0 9 99 0;>=1 mesh(0,0)=9 level(0,99)=0 "
            + "coast<f1 0;h0 2;p0 0 98 0;>=1 level(0,97)=97 level(0,98)=98 level(0,99)=98");
        edge("LEVEL behind n HOURS (0 .. 99): 99 of them", "coast<f1 0;h0 2;p0 0 99 0;>=1 level(0,98)=98 level(0,99)=99");
        edge("LEVEL behind n HOURS (0 .. 99): one below", COAST + "level(0,-1)=OUTSIDE level(0,MIN)=OUTSIDE");
        edge("LEVEL behind n HOURS (0 .. 99): one above", COAST + "level(0,100)=OUTSIDE level(0,MAX)=OUTSIDE");
        edge("LEVEL: UNKNOWN", COAST + "level(2,1)=UNKNOWN level(-1,1)=UNKNOWN");
        edge("LEVEL: UNKNOWN comes ahead of OUTSIDE", COAST + "level(2,100)=UNKNOWN level(-1,-1)=UNKNOWN");
        edge("LEVEL: UNKNOWN without POSTS", "level(0,0)=UNKNOWN coast<f1 0;>=0 level(0,0)=UNKNOWN");
        edge("LEVEL: goats drink at the day's end", "coast<f1 0;h0 10;h0 10;p0 0 99 0;g0 4;>=1 level(0,1)=9 level(0,2)=14 "
            + "level(0,3)=23 level(0,4)=28");
        edge("LEVEL: what SPILLS is gone", "coast<f1 0;h0 10;p0 0 8 0;g0 5;>=1 level(0,1)=3 level(0,2)=3");
        edge("LEVEL: nothing is CARRIED", "coast<f1 0;h0 10;p0 0 99 0;u99 99;>=1 level(0,11)=99");
    }

    private static void shadow() {
        String two = "coast<f2 0;h0 30;h1 30;p0 5 99 0;p1 5 99 1;>=2 ";
        edge("SHADOW: 0 of the first one downwind", two + "shadow(0)=0");
        // 15 of 30 alone; 15 thin ones behind the other: 6.
        edge("SHADOW: how much more", two + "shadow(1)=9");
        edge("SHADOW in the next HOUR", two + "hour(1) shadow(0)=9 shadow(1)=0");
        edge("SHADOW (below 0: less)", "coast<f2 0;h0 21;p0 1 99 0;p1 1 99 1;>=2 shadow(1)=-13");
        edge("SHADOW: 0 of one alone", "coast<f1 0;h0 30;p0 5 99 0;>=1 shadow(0)=0");
        edge("SHADOW (0, if it does not HANG)", "coast<f2 0;h0 30;p0 5 99 0;p1 5 99 1;d127 0;>=2 shadow(1)=0");
        edge("SHADOW: 0, if the other does not HANG", "coast<f2 0;h0 30;p0 5 99 0;p1 5 99 1;d0 127;>=2 shadow(1)=0");
        edge("SHADOW: if no other net hung, of both VILLAGES", "coast<f3 0;h0 40;p0 5 99 0;p1 5 99 1;p2 5 99 0;>=3 shadow(2)=16");
        edge("SHADOW without fog", "coast<f2 0;p0 5 99 0;p1 5 99 1;>=2 shadow(0)=0 shadow(1)=0");
        edge("SHADOW with the LAMP as it is", "coast<f2 10;h0 30;p0 5 99 0;p1 5 99 1;>=2 lamp(true)=0 shadow(1)=6");
        edge("SHADOW: UNKNOWN", two + "shadow(2)=UNKNOWN shadow(-1)=UNKNOWN shadow(MIN)=UNKNOWN shadow(MAX)=UNKNOWN");
        edge("SHADOW: UNKNOWN without POSTS", "shadow(0)=UNKNOWN coast<f1 0;>=0 shadow(0)=UNKNOWN");
    }

    private static void left() {
        edge("LEFT: without POSTS all", "coast<f12 0;h0 40;h1 39;>=0 left()=40 hour(1)=0 left()=39");
        edge("LEFT: no fog", "coast<f12 0;>=0 left()=0 coast<f12 0;h1 0;p0 0 9 0;>=1 left()=0");
        edge("LEFT: the least that a net leaves", "coast<f1 0;h0 40;p0 9 1 0;>=1 left()=4");
        edge("LEFT: fog of 1 is cut to nothing", "coast<f1 0;h0 1;p0 0 1 0;>=1 left()=1");
        edge("LEFT beyond the last CELL, from either side", "coast<f12 0;h0 40;h1 40;p0 6 99 0;p11 1 99 1;>=2 left()=4 hour(1)=36 "
            + "left()=15");
        edge("LEFT in the next HOUR", COAST + "left()=18 hour(1)=12 left()=5 hour(1)=5 left()=24");
        edge("LEFT: NOT: no COAST", "left()=NOT coast<f1 0;>=0 left()=0 coast()=0 left()=NOT");
    }

    private static void bestMesh() {
        // 40, THICK: the most by 9; 10, thin: the most by 0.
        edge("BEST MESH: the greatest", "coast<f1 0;h0 40;p0 3 1 0;>=1 bestMesh(0,0)=9 bestMesh(0,1)=36");
        edge("BEST MESH: the least", "coast<f1 0;h0 10;p0 3 1 0;>=1 bestMesh(0,0)=0 bestMesh(0,1)=9");
        edge("BEST MESH, of like ones the least: all take nothing", "coast<f1 0;h0 1;p0 7 1 0;>=1 bestMesh(0,0)=0 bestMesh(0,1)=0");
        edge("BEST MESH, of like ones the least: no fog", "coast<f1 0;p0 7 1 0;>=1 bestMesh(0,0)=0 bestMesh(0,1)=0");
        edge("BEST MESH, of like ones the least: it does not HANG", "coast<f1 0;h0 40;p0 7 1 0;d0 0;>=1 bestMesh(0,0)=0 "
            + "bestMesh(0,1)=0");
        // 18 of 20 by 9, 18 of 20 by 9 less 0 of twice 10.
        edge("BEST MESH, of like ones the least: 0 and 9", "coast<f1 0;h0 20;h0 10;h0 10;p0 5 1 0;>=1 bestMesh(0,0)=0 bestMesh(0,1)=18");
        // 5: 4, 4, 3, 3, 2, 2, ..; with 20: 0, 2, 4, 6, ..: 4, 6, 7, 9, 10, 12, 13, 15, 16, 18.
        edge("BEST MESH of HOURS of both sorts", "coast<f1 0;h0 20;h0 5;p0 5 1 0;>=1 bestMesh(0,0)=9 bestMesh(0,1)=18");
        edge("BEST MESH in the HOURS of a whole day (as many as a day has): one", "coast<f1 0;h0 40;p0 5 1 0;d1 0;>=1 "
            + "bestMesh(0,1)=36 hour(1)=20 bestMesh(0,1)=0 hour(5)=0 bestMesh(0,1)=0 hour(1)=0 bestMesh(0,1)=36");
        edge("BEST MESH in the HOURS of a whole day: twelve", LONG_DAY + ">=1 bestMesh(0,0)=9 bestMesh(0,1)=18");
        edge("BEST MESH from now on: over the day's end", LONG_DAY + "d1 0;>=1 hour(1)=9 bestMesh(0,0)=9 bestMesh(0,1)=18 hour(11)=0 "
            + "bestMesh(0,0)=0 bestMesh(0,1)=0");
        edge("BEST MESH: HOURS of a day that is begun", LONG_DAY + "d2 0;>=1 hour(11)=0 bestMesh(0,0)=0 bestMesh(0,1)=9");
        edge("BEST MESH: what = 0 the MESH, 1 how much: one below", COAST + "bestMesh(0,-1)=OUTSIDE bestMesh(0,MIN)=OUTSIDE");
        edge("BEST MESH: what = 0 the MESH, 1 how much: one above", COAST + "bestMesh(0,2)=OUTSIDE bestMesh(0,MAX)=OUTSIDE");
        edge("BEST MESH: UNKNOWN", COAST + "bestMesh(2,0)=UNKNOWN bestMesh(-1,1)=UNKNOWN");
        edge("BEST MESH: UNKNOWN comes ahead of OUTSIDE", COAST + "bestMesh(2,2)=UNKNOWN bestMesh(-1,-1)=UNKNOWN");
        edge("BEST MESH: UNKNOWN without POSTS", "bestMesh(0,0)=UNKNOWN coast<f1 0;>=0 bestMesh(0,0)=UNKNOWN");
    }

    private static void bestCell() {
        edge("BEST CELL: the only one", "coast<f1 0;h0 40;p0 9 1 0;>=1 bestCell(0,0)=0 bestCell(0,1)=36");
        edge("BEST CELL: its own, as all have a POST", "coast<f2 0;h0 40;p0 9 1 0;p1 9 1 0;>=2 bestCell(1,0)=1 bestCell(1,1)=0 "
            + "bestCell(0,0)=0 bestCell(0,1)=36");
        edge("BEST CELL: the last one", "coast<f12 0;h1 40;p0 9 1 0;p1 5 1 0;p10 9 1 1;>=3 bestCell(1,0)=11 bestCell(1,1)=20");
        edge("BEST CELL, of like ones the least: its own is another", "coast<f12 0;h0 40;p11 9 1 0;>=1 bestCell(0,0)=0 "
            + "bestCell(0,1)=36");
        edge("BEST CELL, of like ones the least: 0 has a POST", "coast<f12 0;h0 40;p11 9 1 0;p0 0 1 0;>=2 bestCell(0,0)=1 "
            + "bestCell(0,1)=36");
        edge("BEST CELL, of like ones the least: its own", "coast<f12 0;h0 40;p0 9 1 0;>=1 bestCell(0,0)=0");
        edge("BEST CELL, of like ones the least: it does not HANG", "coast<f3 0;h0 40;p2 9 1 0;d0 0;>=1 bestCell(0,0)=0 "
            + "bestCell(0,1)=0");
        edge("BEST CELL: no CELL of another POST, be it never so good", "coast<f2 0;h0 40;p0 9 1 0;p1 5 1 1;>=2 bestCell(1,0)=1 "
            + "bestCell(1,1)=1");
        edge("BEST CELL: as POSTS stand now", "coast<f3 0;h0 40;p0 9 1 0;p1 5 1 1;>=2 move(0,2)=0 bestCell(1,0)=0 bestCell(1,1)=20");
        edge("BEST CELL in the HOURS of a whole day from now on", "coast<f3 0;h0 40;h1 30;p1 5 1 0;p2 5 1 1;d3 1;>=2 "
            + "bestCell(0,0)=0 bestCell(0,1)=26 hour(2)=51 bestCell(0,1)=35");
        edge("BEST CELL: what = 0 the CELL, 1 how much: one below", COAST + "bestCell(0,-1)=OUTSIDE bestCell(0,MIN)=OUTSIDE");
        edge("BEST CELL: what = 0 the CELL, 1 how much: one above", COAST + "bestCell(0,2)=OUTSIDE bestCell(0,MAX)=OUTSIDE");
        edge("BEST CELL: UNKNOWN", COAST + "bestCell(2,0)=UNKNOWN bestCell(-1,1)=UNKNOWN");
        edge("BEST CELL: UNKNOWN comes ahead of OUTSIDE", COAST + "bestCell(2,2)=UNKNOWN bestCell(-1,-1)=UNKNOWN");
        edge("BEST CELL: UNKNOWN without POSTS", "bestCell(0,0)=UNKNOWN coast<f1 0;>=0 bestCell(0,0)=UNKNOWN");
    }

    private static void bestTwo() {
        edge("BEST TWO: each one of both's own, as all have a POST", "coast<f2 0;h0 40;p0 9 1 0;p1 5 1 1;>=2 bestTwo(0,1,0)=100 "
            + "bestTwo(0,1,1)=126 bestTwo(1,0,0)=1 bestTwo(1,0,1)=126");
        edge("BEST TWO: the first POST is VILLAGE 1's", "coast<f2 0;h0 40;p0 5 1 1;p1 5 1 0;>=2 bestTwo(0,1,0)=1 bestTwo(0,1,1)=70 "
            + "bestTwo(1,0,0)=1 bestTwo(1,0,1)=70");
        edge("BEST TWO: each where it is", "coast<f2 0;h0 40;p0 5 1 0;p1 9 1 1;>=2 bestTwo(0,1,0)=1 bestTwo(0,1,1)=126");
        edge("BEST TWO: CELLS of two figures", "coast<f12 0;h0 38;p0 4 1 0;p1 0 1 1;p9 5 1 0;>=3 bestTwo(0,1,0)=1110 "
            + "bestTwo(1,0,0)=1011 bestTwo(0,1,1)=119");
        edge("BEST TWO: CELLS that others leave", "coast<f12 0;h0 0;p11 9 1 0;p10 9 1 1;p0 9 1 0;p1 9 1 0;p2 9 1 0;p3 9 1 0;>=6 "
            + "bestTwo(0,1,0)=405 bestTwo(0,2,0)=4 move(2,9)=0 bestTwo(0,1,0)=4");
        edge("BEST TWO: no CELL of a third POST", "coast<f3 0;h0 40;p0 9 1 0;p1 5 1 1;p2 9 1 0;>=3 bestTwo(1,2,0)=102 "
            + "bestTwo(1,2,1)=7 bestTwo(0,1,0)=100 bestTwo(0,1,1)=126 bestTwo(0,2,0)=2 bestTwo(0,2,1)=7");
        edge("BEST TWO in 7 days' HOURS from now on", "coast<f2 0;h0 40;p0 5 1 0;p1 5 1 1;d64 64;>=2 bestTwo(0,1,1)=10 hour(6)=0 "
            + "bestTwo(0,1,1)=10 hour(1)=30 bestTwo(0,1,1)=10");
        edge("BEST TWO in 7 days' HOURS: six are too few, eight too many", "coast<f2 0;h0 40;p0 5 1 0;p1 5 1 1;d1 2;>=2 "
            + "bestTwo(0,1,1)=20 hour(1)=20 bestTwo(0,1,1)=20 hour(1)=20 bestTwo(0,1,1)=20");
        edge("BEST TWO in 7 days' HOURS: 84", "coast<f2 0;h0 10;h0 10;h0 10;h0 10;h0 10;h0 10;h0 10;h0 10;h0 10;h0 10;h0 10;h0 10;"
            + "p0 0 1 0;p1 0 1 1;d85 42;>=2 bestTwo(0,1,1)=324 hour(5)=45 bestTwo(0,1,1)=324");
        edge("BEST TWO: a VILLAGE without POSTS: the lesser is 0", "coast<f4 0;h0 40;p2 9 1 0;p0 9 1 0;p3 9 1 0;>=3 bestTwo(0,2,0)=102 "
            + "bestTwo(0,2,1)=0 bestTwo(2,0,0)=102");
        edge("BEST TWO: of all nets of both VILLAGES", "coast<f3 0;h0 40;p0 5 1 0;p1 9 1 0;p2 5 1 1;>=3 bestTwo(0,1,0)=100 "
            + "bestTwo(0,1,1)=7");
        edge("BEST TWO: one twice, where two are asked", COAST + "bestTwo(0,0,0)=UNKNOWN bestTwo(1,1,1)=UNKNOWN");
        edge("BEST TWO: UNKNOWN", COAST + "bestTwo(0,2,0)=UNKNOWN bestTwo(2,0,0)=UNKNOWN bestTwo(-1,0,0)=UNKNOWN "
            + "bestTwo(0,-1,0)=UNKNOWN bestTwo(2,2,0)=UNKNOWN bestTwo(-1,-1,0)=UNKNOWN");
        edge("BEST TWO: UNKNOWN comes ahead of OUTSIDE", COAST + "bestTwo(0,0,2)=UNKNOWN bestTwo(0,2,-1)=UNKNOWN");
        edge("BEST TWO: what = 0 the CELLS, 1 how much: one below", COAST + "bestTwo(0,1,-1)=OUTSIDE bestTwo(0,1,MIN)=OUTSIDE");
        edge("BEST TWO: what = 0 the CELLS, 1 how much: one above", COAST + "bestTwo(0,1,2)=OUTSIDE bestTwo(0,1,MAX)=OUTSIDE");
        edge("BEST TWO: UNKNOWN with one POST", "bestTwo(0,1,0)=UNKNOWN coast<f2 0;p0 0 1 0;>=1 bestTwo(0,1,0)=UNKNOWN "
            + "bestTwo(0,0,0)=UNKNOWN");
    }

    private static void bestTwoOfLikeOnes() {
        edge("of like ones the first POST in the lesser CELL", "coast<f4 0;p3 9 1 0;p2 9 1 1;>=2 bestTwo(0,1,0)=1 bestTwo(1,0,0)=1");
        edge("of like ones the first POST, then the second", "coast<f4 0;p3 9 1 0;p2 9 1 1;p1 9 1 1;>=3 bestTwo(0,1,0)=2 "
            + "bestTwo(1,0,0)=2 bestTwo(0,2,0)=1 bestTwo(2,1,0)=1");
        edge("of like ones: CELL 0 has a third POST", "coast<f4 0;p3 9 1 0;p2 9 1 1;p0 9 1 1;>=3 bestTwo(0,1,0)=102 bestTwo(1,0,0)=102");
    }

    private static void lampCosts() {
        edge("LAMP COSTS (n 0 .. 99): the least", COAST + "lampCosts(0)=0");
        edge("LAMP COSTS (n 0 .. 99): one", COAST + "lampCosts(1)=3 lampCosts(2)=6");
        edge("LAMP COSTS (n 0 .. 99): the greatest", "coast<f1 5;h0 10;p0 0 1 0;>=1 lampCosts(98)=490 lampCosts(99)=495");
        edge("LAMP COSTS (n 0 .. 99): one below", COAST + "lampCosts(-1)=OUTSIDE lampCosts(MIN)=OUTSIDE");
        edge("LAMP COSTS (n 0 .. 99): one above", COAST + "lampCosts(100)=OUTSIDE lampCosts(MAX)=OUTSIDE");
        edge("LAMP COSTS (below 0: more)", "coast<f1 5;h0 21;p0 1 1 0;>=1 lampCosts(1)=-10 lampCosts(99)=-990");
        edge("LAMP COSTS: while it is lit too", COAST + "lamp(true)=0 lampCosts(1)=3 lampCosts(2)=6 told(8)=1");
        edge("LAMP COSTS: V 0", "coast<f1 0;h0 21;p0 1 1 0;>=1 lampCosts(99)=0");
        edge("LAMP COSTS: all is burnt off", "coast<f1 20;h0 20;p0 9 1 0;>=1 lampCosts(1)=18");
        edge("LAMP COSTS: without POSTS", "coast<f1 20;h0 20;>=0 lampCosts(99)=0");
        edge("LAMP COSTS: NOT: no COAST", "lampCosts(0)=NOT lampCosts(99)=NOT");
        edge("LAMP COSTS: OUTSIDE comes ahead of NOT", "lampCosts(-1)=OUTSIDE lampCosts(100)=OUTSIDE");
    }

    private static void thirsty() {
        edge("THIRSTY: nothing is used", "coast<f1 0;>=0 thirsty(0)=NONE thirsty(1)=NONE");
        edge("THIRSTY (1 .. 60): at the first day's end", "coast<f1 0;u1 0;>=0 thirsty(0)=1 thirsty(1)=NONE");
        edge("THIRSTY (1 .. 60): of its own VILLAGE", "coast<f1 0;u0 1;>=0 thirsty(0)=NONE thirsty(1)=1");
        edge("THIRSTY: this day's end, though the day is begun", "coast<f1 0;h0 0;h0 0;h0 0;u1 0;>=0 thirsty(0)=1 hour(2)=0 "
            + "thirsty(0)=1 hour(1)=0 village(0,3)=1 thirsty(0)=1");
        edge("THIRSTY: more THIRST than now", "coast<f1 0;h0 10;p0 0 99 0;u9 0;>=1 hour(1)=9 village(0,3)=9 thirsty(0)=NONE");
        edge("JARS are CARRIED behind the last HOUR: of one VILLAGE", "coast<f1 0;h0 10;p0 0 99 0;u9 0;>=1 thirsty(0)=NONE");
        edge("JARS are CARRIED behind the last HOUR: of the other", "coast<f1 0;h0 10;p0 0 99 1;u0 9;>=1 thirsty(1)=NONE");
        edge("JARS are CARRIED behind the last HOUR: one gill is missing", "coast<f1 0;h0 10;p0 0 99 0;u10 0;>=1 thirsty(0)=1");
        edge("ahead of GOATS", "coast<f1 0;h0 10;p0 0 99 0;u9 0;g0 20;g0 20;>=1 thirsty(0)=NONE");
        edge("CARRIED behind the last HOUR of each: what SPILLS ahead of it is gone", "coast<f1 0;h0 10;h0 10;p0 0 17 0;u17 0;>=1 "
            + "thirsty(0)=NONE coast<f1 0;h0 10;h0 10;p0 0 17 0;u18 0;>=1 thirsty(0)=1");
        edge("CARRIED is nothing but TRIED", "coast<f1 0;h0 10;p0 0 99 0;u9 0;g0 4;>=1 thirsty(0)=NONE hour(1)=9 post(0,4)=5 "
            + "village(0,2)=0 village(0,3)=9 told(12)=4");
        edge("THIRSTY: with the LAMP as it is", "coast<f1 5;h0 10;p0 0 99 0;u9 0;>=1 thirsty(0)=NONE lamp(true)=0 thirsty(0)=1");
        edge("THIRSTY: UNKNOWN", COAST + "thirsty(2)=UNKNOWN thirsty(-1)=UNKNOWN thirsty(MIN)=UNKNOWN thirsty(MAX)=UNKNOWN");
        edge("THIRSTY: NOT: no COAST", "thirsty(0)=NOT thirsty(1)=NOT");
        edge("THIRSTY: UNKNOWN comes ahead of NOT", "thirsty(2)=UNKNOWN thirsty(-1)=UNKNOWN");
    }

    private static void thirstyBounds() {
        // 1 a day is used, and nothing comes any more: a cistern of n lasts n days' ends.
        String[] days = {"h0 10;", "h0 10;h0 0;h0 0;h0 0;h0 0;h0 0;h0 0;h0 0;h0 0;h0 0;h0 0;h0 0;"};
        for (String hours : days) {
            int many = hours.length() / 5;
            String fed = "coast<f1 0;" + hours + "p0 0 99 0;u1 0;>=1 " + "7xhour(" + many + ")=9 mesh(0,9)=0 ";
            edge("behind how many days' ends (1 .. 60): 59", fed + "lick(0,5)=58 carry(0)=58 thirsty(0)=59");
            edge("behind how many days' ends (1 .. 60): 60", fed + "lick(0,4)=59 carry(0)=59 thirsty(0)=60");
            edge("behind how many days' ends (1 .. 60): never 61; NONE", fed + "lick(0,3)=60 carry(0)=60 thirsty(0)=NONE");
            edge("behind how many days' ends (1 .. 60): one passes", fed + "lick(0,3)=60 carry(0)=60 hour(" + many
                + ")=0 thirsty(0)=60");
        }
    }

    private static void lasts() {
        edge("LASTS: an empty CISTERN", "coast<f1 0;u1 99;>=0 lasts(0)=0 lasts(1)=0");
        edge("LASTS: 999, if nothing is used", "coast<f1 0;u0 1;>=0 lasts(0)=999 lasts(1)=0");
        edge("LASTS: 999, if nothing is used: no COAST", "lasts(0)=999 lasts(1)=999");
        edge("LASTS (it / what is used): cut", "coast<f1 0;h0 10;h0 0;p0 0 99 0;u5 0;>=1 hour(1)=9 carry(0)=9 lasts(0)=1");
        edge("LASTS (it / what is used): just", "coast<f1 0;h0 10;h0 0;p0 0 99 0;u3 0;>=1 hour(1)=9 carry(0)=9 lasts(0)=3");
        edge("LASTS (it / what is used): one gill too few", "coast<f1 0;h0 10;h0 0;p0 0 99 0;u10 0;>=1 hour(1)=9 carry(0)=9 lasts(0)=0");
        edge("LASTS: a CISTERN alone", "coast<f1 0;h0 10;h0 0;p0 0 99 0;u3 0;>=1 hour(1)=9 lasts(0)=0");
        String fed = "coast<f3 0;h0 40;h0 40;h0 40;h0 40;h0 40;h0 40;h0 40;h0 40;h0 40;h0 40;h0 40;h0 40;p0 9 99 1;u0 1;>=1 "
            + "hour(3)=108 carry(1)=99 ";
        edge("LASTS: as the CISTERN goes down", fed + "village(1,2)=99 lasts(1)=99 hour(12) lasts(1)=98");
        String rich = "coast<f6 0;h0 40;h0 40;p0 1 99 1;p1 1 99 1;p2 1 99 1;p3 1 99 1;p4 1 99 1;p5 1 99 1;u0 1;>=6 "
            + "hour(60) carry(1)=594 hour(60) ";
        // 594, of which 30 are used: 564.
        edge("LASTS (999 at most): 998", rich + "lick(0,99)=0 lick(1,61)=38 carry(1)=434 village(1,2)=998 lasts(1)=998");
        edge("LASTS (999 at most): 999", rich + "lick(0,99)=0 lick(1,60)=39 carry(1)=435 village(1,2)=999 lasts(1)=999");
        edge("LASTS (999 at most): one above", rich + "lick(0,99)=0 lick(1,59)=40 carry(1)=436 village(1,2)=1000 lasts(1)=999");
        edge("LASTS: UNKNOWN", COAST + "lasts(2)=UNKNOWN lasts(-1)=UNKNOWN lasts(MIN)=UNKNOWN lasts(MAX)=UNKNOWN");
        edge("LASTS: UNKNOWN: no COAST", "lasts(2)=UNKNOWN lasts(-1)=UNKNOWN");
    }

    private static void both() {
        for (int day = 0; day < 7; day++) {
            edge("BOTH (0 .. 6): " + day, "coast<f1 0;d" + (1 << day) + " 127;>=0 both()=" + day);
            edge("BOTH (0 .. 6): " + day, "coast<f1 0;d127 " + (1 << day) + ";>=0 both()=" + day);
            edge("BOTH: behind it, of the next week: " + day, "coast<f1 0;d" + (1 << day) + " 127;>=0 hour(" + (day + 1)
                + ")=0 both()=6 hour(6)=0 both()=0");
        }
        edge("BOTH: NONE: the empty SETS", "coast<f1 0;d0 0;>=0 both()=NONE");
        edge("BOTH: NONE: one is empty", "coast<f1 0;d0 127;>=0 both()=NONE coast<f1 0;d127 0;>=0 both()=NONE");
        edge("BOTH: NONE: unlike days", "coast<f1 0;d85 42;>=0 both()=NONE hour(6)=0 both()=NONE");
        edge("BOTH: untold", "coast<f1 0;>=0 both()=0");
        edge("BOTH: NOT: no COAST", "both()=NOT coast<f1 0;>=0 both()=0 coast()=0 both()=NOT");
    }

    private static void apart() {
        edge("in the next n days (0 .. 99): the least", "coast<f1 0;d127 0;>=0 apart(0)=0");
        edge("in the next n days (0 .. 99): one", "coast<f1 0;d1 0;>=0 apart(1)=1 coast<f1 0;d2 0;>=0 apart(1)=0 apart(2)=1");
        edge("in the next n days (0 .. 99): the greatest", "coast<f1 0;d127 0;>=0 apart(98)=98 apart(99)=99");
        edge("in the next n days (0 .. 99): the 99th is day 0's like", "coast<f1 0;d1 0;>=0 apart(98)=14 apart(99)=15");
        edge("in the next n days (0 .. 99): one below", COAST + "apart(-1)=OUTSIDE apart(MIN)=OUTSIDE");
        edge("in the next n days (0 .. 99): one above", COAST + "apart(100)=OUTSIDE apart(MAX)=OUTSIDE");
        edge("from today on", "coast<f1 0;d64 0;>=0 apart(6)=0 apart(7)=1 hour(6)=0 apart(1)=1 hour(1)=0 apart(6)=0");
        edge("just one's does: both do, none does", "coast<f1 0;d3 5;>=0 apart(1)=0 apart(2)=1 apart(3)=2 apart(7)=2");
        edge("just one's does: the full SETS", "coast<f1 0;d127 127;>=0 apart(99)=0");
        edge("just one's does: the empty SETS", "coast<f1 0;d0 0;>=0 apart(99)=0");
        edge("apart(): NOT: no COAST", "apart(0)=NOT apart(99)=NOT");
        edge("apart(): OUTSIDE comes ahead of NOT", "apart(-1)=OUTSIDE apart(100)=OUTSIDE");
    }

    private static void share() {
        edge("SHARE of x jars (0 .. 999): the least", COAST + "share(0,0)=0 share(0,1)=0");
        edge("SHARE of x jars (0 .. 999): one", COAST + "share(1,0)=1 share(1,1)=0");
        edge("SHARE of x jars (0 .. 999): the greatest", COAST + "share(999,0)=500 share(999,1)=499");
        edge("SHARE of x jars (0 .. 999): one below", COAST + "share(-1,0)=OUTSIDE share(MIN,1)=OUTSIDE");
        edge("SHARE of x jars (0 .. 999): one above", COAST + "share(1000,0)=OUTSIDE share(MAX,1)=OUTSIDE");
        edge("SHARE of like ones: VILLAGE 0", "coast<f2 0;p0 0 1 1;p1 0 1 0;>=2 share(7,0)=4 share(7,1)=3");
        edge("SHARE: what is left goes to that which has more left over: VILLAGE 0", "coast<f3 0;p0 0 1 0;p1 0 1 0;p2 0 1 1;>=3 "
            + "share(1,0)=1 share(1,1)=0 share(999,0)=666 share(999,1)=333");
        edge("SHARE: what is left goes to that which has more left over: VILLAGE 1", "coast<f3 0;p0 0 1 0;p1 0 1 0;p2 0 1 1;>=3 "
            + "share(2,0)=1 share(2,1)=1 coast<f3 0;p0 0 1 1;p1 0 1 1;p2 0 1 0;>=3 share(1,0)=0 share(1,1)=1");
        edge("SHARE: nothing is left", "coast<f3 0;p0 0 1 0;p1 0 1 0;p2 0 1 1;>=3 share(3,0)=2 share(3,1)=1");
        edge("SHARE of six POSTS: one has five", "coast<f6 0;p0 0 1 0;p1 0 1 0;p2 0 1 0;p3 0 1 0;p4 0 1 0;p5 0 1 1;>=6 share(2,0)=2 "
            + "share(2,1)=0 share(3,0)=3 share(3,1)=0 share(4,0)=3 share(4,1)=1 share(999,0)=833 share(999,1)=166");
        edge("SHARE: a VILLAGE without POSTS", "coast<f1 0;p0 0 1 1;>=1 share(999,0)=0 share(999,1)=999");
        edge("SHARE: the other without POSTS", "coast<f1 0;p0 0 1 0;>=1 share(999,0)=999 share(999,1)=0");
        edge("SHARE: 0 without POSTS", "coast<f1 0;>=0 share(999,0)=0 share(999,1)=0");
        edge("SHARE: 0 without POSTS: no COAST", "share(999,0)=0 share(999,1)=0 share(0,0)=0");
        edge("SHARE: UNKNOWN", COAST + "share(5,2)=UNKNOWN share(5,-1)=UNKNOWN share(5,MIN)=UNKNOWN share(5,MAX)=UNKNOWN");
        edge("SHARE: UNKNOWN comes ahead of OUTSIDE", COAST + "share(1000,2)=UNKNOWN share(-1,-1)=UNKNOWN");
        edge("SHARE: OUTSIDE without POSTS", "share(1000,0)=OUTSIDE share(-1,1)=OUTSIDE share(1000,2)=UNKNOWN");
    }

    private static void led() {
        String two = "coast<f3 20;h0 0;p0 5 99 0;p2 5 99 1;>=2 ";
        edge("LED of fog x (0 .. 99): of 0 there is no drop", two + "led(0,0,0)=OUTSIDE led(0,1,0)=OUTSIDE led(0,0,-1)=OUTSIDE");
        edge("LED of fog x (0 .. 99): of 1", two + "led(1,0,0)=NONE led(1,0,1)=OUTSIDE");
        // 49 of 99, 25 of 50; 25 go beyond.
        edge("LED of fog x (0 .. 99): the greatest", two + "led(99,0,0)=0 led(99,0,48)=0 led(99,0,49)=1 led(99,0,73)=1 "
            + "led(99,0,74)=NONE led(99,0,98)=NONE");
        edge("LED: comes from the other side", two + "led(99,1,0)=1 led(99,1,48)=1 led(99,1,49)=0 led(99,1,73)=0 led(99,1,74)=NONE");
        edge("LED of fog x (0 .. 99): one below", two + "led(-1,0,0)=OUTSIDE led(MIN,0,0)=OUTSIDE");
        edge("LED of fog x (0 .. 99): one above", two + "led(100,0,0)=OUTSIDE led(MAX,0,0)=OUTSIDE");
        edge("drop i (0 to x less 1): one below", two + "led(30,0,-1)=OUTSIDE led(30,0,MIN)=OUTSIDE");
        edge("drop i (0 to x less 1): one above", two + "led(30,0,29)=NONE led(30,0,30)=OUTSIDE led(30,0,MAX)=OUTSIDE");
        edge("a side that is neither 0 nor 1", two + "led(30,2,0)=OUTSIDE led(30,-1,0)=OUTSIDE led(30,MIN,0)=OUTSIDE "
            + "led(30,MAX,0)=OUTSIDE");
        edge("LED: THICK (20 or more there) or thin", "coast<f1 0;p0 9 99 0;>=1 led(19,0,0)=NONE led(20,0,0)=0 led(20,0,17)=0 "
            + "led(20,0,18)=NONE");
        edge("LED: no LAMP", two + "lamp(true)=0 led(20,0,9)=0 led(20,0,10)=1");
        edge("LED: as nets hang now", "coast<f2 0;p0 5 99 0;p1 5 99 1;d1 2;>=2 led(20,0,0)=0 led(20,0,10)=NONE hour(1)=0 led(20,0,0)=1 "
            + "hour(1)=0 led(20,0,0)=NONE");
        edge("LED: the POST, not its CELL", "coast<f12 0;p11 5 99 0;>=1 led(20,0,0)=0");
        edge("LED: a net that takes nothing is passed by", "coast<f2 0;p0 0 99 0;p1 5 99 1;>=2 led(20,0,0)=1 led(20,0,9)=1 led(20,0,10)=NONE");
        edge("LED: without POSTS", "coast<f1 0;>=0 led(99,0,0)=NONE led(99,1,98)=NONE");
        edge("LED: NOT: no COAST", "led(1,0,0)=NOT led(99,1,98)=NOT");
        edge("LED: OUTSIDE comes ahead of NOT", "led(100,0,0)=OUTSIDE led(1,2,0)=OUTSIDE led(1,0,1)=OUTSIDE led(0,0,0)=OUTSIDE");
    }

    private static void yards() {
        edge("YARDS: NONE: all JARS are empty", COAST + "yards(0,0)=NONE yards(0,1)=NONE");
        edge("YARDS: NONE: without POSTS", "coast<f1 0;g0 1;>=0 yards(0,0)=NONE yards(0,1)=NONE");
        String coast = "coast<f12 0;h0 40;h0 0;p0 1 99 0;g0 1;g11 1;g5 1;g6 1;>=1 hour(1)=4 ";
        edge("YARDS: its own CELL", coast + "yards(0,0)=0 yards(0,1)=0");
        edge("YARDS: from the one end to the other", coast + "yards(1,0)=11 yards(1,1)=0 move(0,11)=0 yards(1,0)=0 yards(0,0)=11");
        edge("YARDS: whose JAR is not empty: one gill", coast + "lick(0,3)=1 yards(0,0)=0 lick(0,1)=0 yards(0,0)=NONE yards(0,1)=NONE");
        String two = "coast<f12 0;h0 40;h0 0;p7 1 99 0;p3 1 99 1;g5 1;g6 1;g4 1;>=2 hour(1) ";
        edge("YARDS, of like ones the left one", two + "yards(0,0)=2 yards(0,1)=1");
        edge("YARDS to the nearest POST: one nearer on the right", two + "yards(1,0)=1 yards(1,1)=0");
        edge("YARDS to the nearest POST: one nearer on the left", two + "yards(2,0)=1 yards(2,1)=1");
        edge("YARDS, of like ones the left one: it is empty", two + "lick(1,99)=0 yards(0,0)=2 yards(0,1)=0");
        edge("YARDS: what = 0 how many, 1 the POST: one below", COAST + "yards(0,-1)=OUTSIDE yards(0,MIN)=OUTSIDE");
        edge("YARDS: what = 0 how many, 1 the POST: one above", COAST + "yards(0,2)=OUTSIDE yards(0,MAX)=OUTSIDE");
        edge("YARDS: UNKNOWN", COAST + "yards(2,0)=UNKNOWN yards(-1,0)=UNKNOWN yards(MIN,0)=UNKNOWN yards(MAX,0)=UNKNOWN");
        edge("YARDS: UNKNOWN comes ahead of OUTSIDE", COAST + "yards(2,2)=UNKNOWN yards(-1,-1)=UNKNOWN");
        edge("YARDS: UNKNOWN without GOATS", "yards(0,0)=UNKNOWN coast<f1 0;>=0 yards(0,0)=UNKNOWN");
    }

    private static void clear() {
        edge("CLEAR: n (0 .. 60) days: the least", "clear(0,0)=1000000000 clear(0,50)=1000000000 clear(0,100)=1000000000");
        edge("CLEAR: n (0 .. 60) days: one", "clear(1,0)=0 clear(1,1)=10000000 clear(1,99)=990000000 clear(1,100)=1000000000");
        edge("CLEAR: n (0 .. 60) days: the greatest", "clear(60,100)=1000000000 clear(60,0)=0 clear(60,70)=" + odds(60, 70)
            + " clear(60,99)=" + odds(60, 99));
        edge("CLEAR: n (0 .. 60) days: one below", "clear(-1,50)=OUTSIDE clear(MIN,50)=OUTSIDE");
        edge("CLEAR: n (0 .. 60) days: one above", "clear(61,50)=OUTSIDE clear(MAX,50)=OUTSIDE");
        edge("CLEAR: q of a hundred (0 .. 100): one below", "clear(5,-1)=OUTSIDE clear(5,MIN)=OUTSIDE");
        edge("CLEAR: q of a hundred (0 .. 100): one above", "clear(5,101)=OUTSIDE clear(5,MAX)=OUTSIDE");
        edge("CLEAR: (cut) each time", "clear(6,33)=1291467 clear(5,1)=0 clear(4,1)=10 clear(20,33)=" + odds(20, 33));
        edge("CLEAR: with a COAST too", COAST + "clear(2,90)=810000000");
    }

    private static long odds(int n, int q) {
        return n == 0 ? 1000000000 : odds(n - 1, q) * q / 100;
    }

    private static void nothingChangesByIt() {
        String setup = COAST + "seed(9) hour(5) keep(1) carry(0) lamp(true) hour(2) got(0,0,1) write(1,2) feed<f1> ";
        String[] calls = {"gets(0,99)", "level(1,99)", "shadow(0)", "shadow(1)", "left()", "bestMesh(0,0)", "bestMesh(1,1)",
            "bestCell(0,0)", "bestCell(1,1)", "bestTwo(0,1,0)", "bestTwo(1,0,1)", "lampCosts(99)", "thirsty(0)", "thirsty(1)",
            "lasts(0)", "both()", "apart(99)", "share(999,0)", "led(99,1,0)", "yards(0,0)", "clear(60,99)", "thick(0)",
            "lookAt(0)", "lookAt(1)", "needs(0,0,40)", "judge()", "told(10)", "post(0,4)", "fog(-1,0)", "village(0,2)", "goat(0,0)",
            "fault()"};
        for (String call : calls) Script.alike("nothing changes by it: " + call, setup + call, setup);
    }
}
