/**
 * Each boundary that section 2 of the document, DAYS and HOURS, and promises 10 to 15 name, sentence by
 * sentence. What a test is called begins with the document's words.
 */
public final class EdgesOfHoursTest {
    private static final String COAST = "coast<" + CoastTest.COAST + "> ";

    public static void main(String[] args) {
        hoursOfADay();
        namesOfDays();
        whoHangs();
        theLamp();
        thickOrThin();
        tenths();
        downwind();
        jars();
        goats();
        use();
        thirstWhileCisternsAreFed();
        counted();
        carried();
        licked();
        meshed();
        moved();
        lit();
        hourCall();
        Check.end();
    }

    private static void edge(String sentence, String told) {
        Script.edge(sentence, told);
    }

    // ---- DAYS and HOURS

    private static void hoursOfADay() {
        edge("without any a day has one HOUR without fog: D 0, G 0", "coast<f2 20;p0 0 9 0;>=1 told(2)=1 fog(NONE,0)=0 "
            + "fog(NONE,1)=0 hour(1)=0 told(6)=1 told(7)=0 left()=0 gets(0,99)=0");
        edge("without any, no HOUR is of the text", "coast<f2 20;>=0 fog(0,0)=OUTSIDE fog(0,1)=OUTSIDE");
        edge("0: no COAST", "told(2)=0 coast<f1 0;>=0 told(2)=1 coast()=0 told(2)=0");
        edge("one HOUR: a day passes behind each", "coast<f1 0;h1 9;>=0 told(2)=1 hour(1)=0 told(6)=1 told(7)=0 hour(1)=0 "
            + "told(6)=2 told(7)=0");
        edge("two HOURS: a day passes behind the second", "coast<f1 0;h1 9;h0 8;>=0 hour(1)=0 told(6)=0 told(7)=1 "
            + "fog(NONE,0)=0 fog(NONE,1)=8 hour(1)=0 told(6)=1 told(7)=0 fog(NONE,0)=1 fog(NONE,1)=9");
        StringBuilder calls = new StringBuilder("coast<f1 0;h0 0;h1 1;h0 2;h1 3;h0 4;h1 5;h0 6;h1 7;h0 8;h1 9;h0 10;h1 11;>=0");
        for (int h = 0; h <= 24; h++) {
            calls.append(" told(6)=").append(h / 12).append(" told(7)=").append(h % 12);
            calls.append(" fog(NONE,0)=").append(h % 2).append(" fog(NONE,1)=").append(h % 12).append(" hour(1)=0");
        }
        edge("twelve HOURS, from 0 on", calls.toString());
    }

    private static void namesOfDays() {
        // VILLAGE 0 hangs on day 6, VILLAGE 1 on day 0: a SET, bit k for k.
        String coast = "coast<f2 0;h0 30;p0 5 99 0;p1 5 99 1;d64 1;>=2 ";
        edge("the day's NAME is DAYS left over by 7: 0", coast + "told(9)=2 hour(1)=15 told(9)=0");
        edge("the day's NAME is DAYS left over by 7: 6", coast + "hour(6)=15 told(6)=6 told(9)=1 hour(1)=15 post(0,4)=15");
        edge("the day's NAME is DAYS left over by 7: 7 is 0", coast + "hour(7)=30 told(6)=7 told(9)=2 hour(1)=15 post(1,4)=30");
        edge("the day's NAME is DAYS left over by 7: 13 is 6", coast + "hour(13)=45 told(6)=13 told(9)=1");
        edge("the day's NAME is DAYS left over by 7: 14 is 0", coast + "hour(14)=60 told(6)=14 told(9)=2");
        for (int day = 0; day < 7; day++) {
            String skip = day == 0 ? "" : "hour(" + day + ")=0 ";
            edge("of its VILLAGE's SET: bit " + day, "coast<f1 0;h0 30;p0 5 99 0;d" + (1 << day) + " 0;>=1 " + skip
                + "told(9)=1 hour(1)=15 told(9)=0 hour(6)=0 told(9)=1");
        }
    }

    private static void whoHangs() {
        edge("A net HANGS: the empty SET, never", "coast<f1 0;h0 30;p0 5 99 0;d0 127;>=1 told(9)=0 14xhour(1)=0 post(0,4)=0");
        edge("A net HANGS: the full SET, always", "coast<f1 0;h0 30;p0 5 99 0;d127 0;>=1 told(9)=1 14xhour(1)=15");
        edge("A net HANGS: the full SET, always", "coast<f1 0;h0 30;p0 5 99 1;d0 127;>=1 told(9)=1 14xhour(1)=15");
        edge("A net HANGS: by its own VILLAGE's SET", "coast<f2 0;h0 30;p0 5 99 1;p1 5 99 0;d0 127;>=2 told(9)=1 hour(1)=15");
        edge("POSTS whose nets HANG: six", "coast<f6 0;p0 0 1 0;p1 0 1 1;p2 0 1 0;p3 0 1 1;p4 0 1 0;p5 0 1 1;d1 2;>=6 "
            + "told(9)=21 hour(1) told(9)=42 hour(1) told(9)=0");
        edge("POSTS whose nets HANG: without POSTS", "coast<f6 0;>=0 told(9)=0");
        edge("what does not hang lets all go on", "coast<f2 0;h0 30;p0 9 99 0;p1 5 99 1;d0 127;>=2 hour(1)=15 post(1,4)=15");
    }

    private static void theLamp() {
        edge("V less: G below V", "coast<f1 20;h0 19;p0 0 9 0;>=1 lamp(true)=0 gets(0,1)=0 left()=0 hour(1)=0");
        edge("V less: G is V", "coast<f1 20;h0 20;p0 9 9 0;>=1 lamp(true)=0 gets(0,1)=0 left()=0 hour(1)=0");
        edge("V less: G one above V", "coast<f1 20;h0 21;>=0 lamp(true)=0 left()=1");
        edge("V less: G 40, V 20", "coast<f1 20;h0 40;p0 9 99 0;>=1 lamp(true)=0 left()=2 hour(1)=18");
        edge("V less: G 0", "coast<f1 20;h0 0;p0 0 9 0;>=1 lamp(true)=0 left()=0 hour(1)=0");
        edge("V less: V 0", "coast<f1 0;h0 19;p0 0 99 0;>=1 lamp(true)=0 left()=2 hour(1)=17");
        edge("if the LAMP is lit", "coast<f1 20;h0 19;p0 0 99 0;>=1 left()=2 lamp(true)=0 left()=0 lamp(false)=1 left()=2");
        edge("fog() tells the text's", "coast<f1 20;h0 19;>=0 lamp(true)=0 fog(NONE,1)=19 fog(0,1)=19");
    }

    // ---- AN HOUR

    private static void thickOrThin() {
        edge("THICK (20 or more there) or thin: 19", "coast<f1 0;h0 19;p0 3 99 0;>=1 hour(1)=11");
        edge("THICK (20 or more there) or thin: 20", "coast<f1 0;h0 20;p0 3 99 0;>=1 hour(1)=6");
        edge("THICK (20 or more there) or thin: 21", "coast<f1 0;h0 21;p0 3 99 0;>=1 hour(1)=6");
        edge("20 are there behind a net", "coast<f2 0;h0 39;p0 5 99 0;p1 9 99 1;>=2 hour(1)=37 post(0,4)=19 post(1,4)=18");
        edge("19 are there behind a net", "coast<f2 0;h0 38;p0 5 99 0;p1 9 99 1;>=2 hour(1)=19 post(0,4)=19 post(1,4)=0");
        edge("20 are there by the LAMP", "coast<f1 5;h0 25;p0 9 99 0;>=1 lamp(true)=0 hour(1)=18");
        edge("19 are there by the LAMP", "coast<f1 5;h0 24;p0 9 99 0;>=1 lamp(true)=0 hour(1)=0");
        edge("20 come, but fewer are there", "coast<f2 0;h0 20;p0 1 99 0;p1 9 99 1;>=2 hour(1)=2 post(1,4)=0");
    }

    /** Each MESH by each fog, with what is cut: told again from the other side, as 9 less M. */
    private static void tenths() {
        for (int m = 0; m <= 9; m++) {
            for (int fog = 0; fog <= 40; fog++) {
                int tenths = fog >= 20 ? m : 9 - m;
                int takes = 0;
                while ((takes + 1) * 10 <= fog * tenths) takes++;
                edge("takes M tenths, if THICK, 9 less M tenths, if thin (cut)", "coast<f1 0;h1 " + fog + ";p0 " + m
                    + " 99 0;>=1 gets(0,1)=" + takes + " left()=" + (fog - takes) + " hour(1)=" + takes);
            }
        }
        edge("MESH 0 of THICK fog takes nothing", "coast<f1 0;h0 40;p0 0 99 0;>=1 hour(1)=0 told(10)=0");
        edge("MESH 9 of thin fog takes nothing", "coast<f1 0;h0 19;p0 9 99 0;>=1 hour(1)=0 told(10)=0");
        edge("MESH 9 of the most fog", "coast<f1 0;h0 40;p0 9 99 0;>=1 hour(1)=36");
        edge("MESH 0 of the most thin fog", "coast<f1 0;h0 19;p0 0 99 0;>=1 hour(1)=17");
    }

    private static void downwind() {
        edge("comes from the left, D 0: the first CELL's net first", "coast<f12 0;h0 40;p11 5 99 0;p0 5 99 1;>=2 hour(1)=30 "
            + "post(0,4)=10 post(1,4)=20");
        edge("or the right, D 1: the last CELL's net first", "coast<f12 0;h1 40;p11 5 99 0;p0 5 99 1;>=2 hour(1)=30 "
            + "post(0,4)=20 post(1,4)=10");
        edge("one CELL from either side", "coast<f1 0;h0 40;h1 40;p0 5 99 0;>=1 hour(1)=20 hour(1)=20");
        edge("what it did not take goes on: six nets", "coast<f6 0;h0 40;p0 1 99 0;p1 1 99 0;p2 1 99 0;p3 1 99 0;p4 1 99 0;"
            + "p5 1 99 0;>=6 left()=23 hour(1)=17 post(0,4)=4 post(1,4)=3 post(2,4)=3 post(3,4)=3 post(4,4)=2 post(5,4)=2");
    }

    private static void jars() {
        // A net of MESH 0 takes 9 of 10.
        edge("above J SPILLS: one below J", "coast<f1 0;h0 10;p0 0 10 0;>=1 hour(1)=9 post(0,4)=9 told(11)=0");
        edge("above J SPILLS: J just", "coast<f1 0;h0 10;p0 0 9 0;>=1 hour(1)=9 post(0,4)=9 told(11)=0");
        edge("above J SPILLS: one above J", "coast<f1 0;h0 10;p0 0 8 0;>=1 hour(1)=9 post(0,4)=8 told(11)=1");
        edge("a full JAR: all SPILLS", "coast<f1 0;h0 10;p0 0 9 0;>=1 hour(2)=18 post(0,4)=9 told(11)=9");
        edge("a JAR of 1 gill", "coast<f1 0;h0 10;p0 0 1 0;>=1 hour(1)=9 post(0,4)=1 told(11)=8");
        edge("a JAR of 99 gills", "coast<f1 0;h0 10;p0 0 99 0;>=1 hour(11)=99 post(0,4)=99 told(11)=0 hour(1)=9 "
            + "post(0,4)=99 told(11)=9");
        edge("what SPILLED is of all JARS", "coast<f2 0;h0 40;p0 5 5 0;p1 5 4 1;>=2 hour(1)=30 told(10)=9 told(11)=21");
    }

    private static void goats() {
        // 9 are in the jar behind the only hour.
        String coast = "coast<f3 0;h0 10;p1 0 99 0;";
        edge("drinks W: one below what the JAR has", coast + "g1 8;>=1 hour(1)=9 post(0,4)=1 told(12)=8");
        edge("drinks W: just what the JAR has", coast + "g1 9;>=1 hour(1)=9 post(0,4)=0 told(12)=9");
        edge("or as much as that has: W one above it", coast + "g1 10;>=1 hour(1)=9 post(0,4)=0 told(12)=9");
        edge("or as much as that has: W 20", coast + "g1 20;>=1 hour(1)=9 post(0,4)=0 told(12)=9");
        edge("drinks W: 1", coast + "g1 1;>=1 hour(1)=9 post(0,4)=8 told(12)=1");
        edge("or as much as that has: nothing", "coast<f3 0;h0 0;p1 0 99 0;g1 20;>=1 hour(1)=0 post(0,4)=0 told(12)=0");
        edge("of the POST in its CELL, if there is one: none", coast + "g0 5;g2 5;>=1 hour(1)=9 post(0,4)=9 told(12)=0");
        edge("of the POST in its CELL: as it stands now", coast + "g2 5;>=1 hour(1) move(0,2)=1 hour(1)=9 post(0,4)=13 "
            + "told(12)=5 move(0,0)=2 hour(1)=9 post(0,4)=22 told(12)=5");
        edge("without POSTS", "coast<f3 0;h0 40;g0 20;g1 20;>=0 hour(60)=0 told(12)=0");
        edge("GOAT by GOAT: two in one CELL", coast + "g1 4;g1 4;>=1 hour(1)=9 post(0,4)=1 told(12)=8");
        edge("GOAT by GOAT: the second has the rest", coast + "g1 8;g1 8;>=1 hour(1)=9 post(0,4)=0 told(12)=9");
        edge("GOAT by GOAT: four", coast + "g1 2;g1 2;g1 2;g1 2;>=1 hour(1)=9 post(0,4)=1 told(12)=8");
        edge("it drinks when the net does not hang", "coast<f1 0;h0 10;p0 0 99 0;d1 0;g0 5;>=1 hour(1)=9 post(0,4)=4 "
            + "hour(1)=0 post(0,4)=0 told(12)=9");
        edge("Behind the last HOUR of a day", "coast<f1 0;h0 10;h0 0;p0 0 99 0;g0 5;>=1 hour(1)=9 post(0,4)=9 told(12)=0 "
            + "hour(1)=0 post(0,4)=4 told(12)=5");
        edge("behind the HOUR's SPILLING", "coast<f1 0;h0 10;p0 0 5 0;g0 3;>=1 hour(1)=9 post(0,4)=2 told(11)=4 told(12)=3");
    }

    private static void use() {
        // 9 are carried in the first of two hours.
        for (int v = 0; v < 2; v++) {
            String coast = "coast<f1 0;h0 10;h0 0;p0 0 99 " + v + ";u";
            String carried = ";>=1 hour(1)=9 carry(" + v + ")=9 hour(1)=0 ";
            String[] both = {v == 0 ? "" : "0 ", v == 0 ? " 0" : ""};
            edge("uses U (W): one below the CISTERN", coast + both[0] + 8 + both[1] + carried + has(v, 1, 0));
            edge("uses U (W): just the CISTERN", coast + both[0] + 9 + both[1] + carried + has(v, 0, 0));
            edge("if it has less, what is missing is THIRST: 1", coast + both[0] + 10 + both[1] + carried + has(v, 0, 1));
            edge("the CISTERN is empty then: U (W) 99", coast + both[0] + 99 + both[1] + carried + has(v, 0, 90));
            edge("uses nothing", coast + both[0] + 0 + both[1] + carried + has(v, 9, 0));
            edge("an empty CISTERN: all is THIRST", coast + both[0] + 5 + both[1] + ";>=1 hour(2)=9 " + has(v, 0, 5)
                + " hour(2)=9 " + has(v, 0, 10));
            edge("JARS are not used", coast + both[0] + 5 + both[1] + ";>=1 hour(2)=9 post(0,4)=9");
            edge("Behind the last HOUR of a day alone", coast + both[0] + 5 + both[1] + ";>=1 hour(1)=9 carry(" + v + ")=9 "
                + has(v, 9, 0));
        }
        edge("each VILLAGE of its own CISTERN", "coast<f2 0;h0 10;h0 0;p0 0 99 0;u4 3;>=1 hour(1)=9 carry(0)=9 hour(1)=0 "
            + "village(0,2)=5 village(0,3)=0 village(1,2)=0 village(1,3)=3");
        edge("a VILLAGE without POSTS", "coast<f1 0;u4 3;>=0 hour(60)=0 village(0,3)=240 village(1,3)=180");
    }

    private static String has(int v, int cistern, int thirst) {
        return "village(" + v + ",2)=" + cistern + " village(" + v + ",3)=" + thirst;
    }

    private static void thirstWhileCisternsAreFed() {
        edge("THIRST is counted on", "coast<f1 0;h0 10;p0 0 99 0;u12 0;>=1 hour(1)=9 " + has(0, 0, 12)
            + " carry(0)=9 hour(1)=9 " + has(0, 0, 15) + " hour(1)=9 " + has(0, 0, 27) + " carry(0)=18 hour(1)=9 " + has(0, 6, 27));
    }

    private static void counted() {
        // 39 spill in each hour, 2340 in a call.
        String coast = "coast<f2 0;h0 40;h0 40;h0 40;h0 40;p0 9 1 0;p1 0 1 0;> ";
        edge("counted (999999 at most): ahead of it", coast + "427xhour(60)=2340 told(11)=999178");
        edge("counted (999999 at most): one below", coast + "427xhour(60)=2340 hour(21)=819 told(11)=999997 lick(0,2)=0 "
            + "hour(1)=39 told(11)=999999");
        edge("counted (999999 at most): it stays", coast + "428xhour(60)=2340 told(11)=999999 hour(1)=39 told(11)=999999 "
            + "undo(1) told(11)=999999");
        edge("counted: undone below it", coast + "427xhour(60)=2340 hour(22)=858 told(11)=999999 undo(1) told(11)=999997");
        edge("counted: told by each its own", "coast<f1 0;h0 10;p0 0 5 0;u2 3;g0 4;>=1 hour(1)=9 told(11)=4 told(12)=4 "
            + "village(0,3)=2 village(1,3)=3");
        edge("counted: as many as 9060 days make", "coast<f4 0;h0 40;p0 8 99 0;u99 98;g0 20;g0 1;>=1 151xhour(60)=1920 "
            + "told(6)=9060 village(0,3)=896940 village(1,3)=887880 told(12)=190260");
    }

    // ---- deeds

    private static void carried() {
        edge("all JARS of a VILLAGE: none has anything", COAST + "carry(0)=0 village(0,2)=0 told(15)=1");
        edge("all JARS of a VILLAGE: its own alone", "coast<f3 0;h0 40;p0 5 99 0;p1 5 99 1;p2 1 99 0;>=3 hour(1)=38 "
            + "carry(0)=28 post(0,4)=0 post(1,4)=10 post(2,4)=0 village(0,2)=28 village(1,2)=0");
        edge("a VILLAGE without POSTS", "coast<f1 0;h0 40;p0 5 99 0;>=1 hour(1)=20 carry(1)=0 village(1,2)=0 told(10)=20");
        edge("CARRIED: UNKNOWN", COAST + "hour(3) carry(2)=UNKNOWN carry(-1)=UNKNOWN carry(MIN)=UNKNOWN carry(MAX)=UNKNOWN");
        edge("CARRIED: NOT: no COAST", "carry(0)=NOT carry(1)=NOT");
        edge("CARRIED: NOT: no COAST any more", COAST + "coast()=0 carry(0)=NOT carry(1)=NOT");
        edge("UNKNOWN comes ahead of NOT", "carry(2)=UNKNOWN carry(-1)=UNKNOWN");
        // 594 are carried each time: 168 times make 99792, 207 below what a cistern holds.
        String six = "coast<f6 0;h0 40;h0 40;p0 1 99 1;p1 1 99 1;p2 1 99 1;p3 1 99 1;p4 1 99 1;p5 1 99 1;> ";
        StringBuilder fed = new StringBuilder(six);
        for (int k = 0; k < 168; k++) fed.append("hour(60) carry(1)=594 ");
        edge("its CISTERN (99999 at most): one below", fed + "village(1,2)=99792 hour(60) lick(0,99)=0 lick(1,99)=0 lick(2,99)=0 "
            + "lick(3,91)=8 carry(1)=206 village(1,2)=99998");
        edge("its CISTERN (99999 at most): just full", fed + "hour(60) lick(0,99)=0 lick(1,99)=0 lick(2,99)=0 "
            + "lick(3,90)=9 carry(1)=207 village(1,2)=99999 told(10)=0 carry(1)=0 village(1,2)=99999");
        edge("its CISTERN (99999 at most): one above", fed + "hour(60) lick(0,99)=0 lick(1,99)=0 lick(2,99)=0 "
            + "lick(3,89)=10 carry(1)=208 village(1,2)=99999 told(10)=0");
        edge("how much JARS had (a CISTERN that is full takes no more)", fed + "hour(60) carry(1)=594 village(1,2)=99999 "
            + "hour(60) carry(1)=594 village(1,2)=99999 told(10)=0 told(11)");
    }

    private static void licked() {
        // The jar has 12.
        String has = COAST + "hour(1)=12 ";
        edge("x less: 1", has + "lick(0,1)=11 post(0,4)=11");
        edge("x less: one below what it has", has + "lick(0,11)=1 post(0,4)=1");
        edge("x less: all", has + "lick(0,12)=0 post(0,4)=0");
        edge("(0 at least): x one above what it has", has + "lick(0,13)=0 post(0,4)=0");
        edge("(0 at least): 99", has + "lick(0,99)=0 post(0,4)=0");
        edge("(0 at least): an empty JAR", COAST + "lick(0,1)=0 post(0,4)=0 told(15)=1");
        edge("what was LICKED is not counted", has + "lick(0,5)=7 told(10)=7 told(11)=0 told(12)=0");
        edge("LICKED (x 1 .. 99): one below", has + "lick(0,0)=OUTSIDE lick(0,-1)=OUTSIDE lick(0,MIN)=OUTSIDE");
        edge("LICKED (x 1 .. 99): one above", has + "lick(0,100)=OUTSIDE lick(0,MAX)=OUTSIDE");
        edge("LICKED: UNKNOWN", has + "lick(2,1)=UNKNOWN lick(-1,1)=UNKNOWN lick(MIN,1)=UNKNOWN lick(MAX,1)=UNKNOWN");
        edge("LICKED: UNKNOWN comes ahead of OUTSIDE", has + "lick(2,0)=UNKNOWN lick(-1,100)=UNKNOWN");
        edge("LICKED: UNKNOWN without POSTS", "lick(0,1)=UNKNOWN coast<f1 0;>=0 lick(0,1)=UNKNOWN");
    }

    private static void meshed() {
        edge("MESHED (0 .. 9): the least", COAST + "mesh(0,0)=4 post(0,1)=0 post(1,1)=2");
        edge("MESHED (0 .. 9): the greatest", COAST + "mesh(1,9)=2 post(1,1)=9 post(0,1)=4");
        edge("MESHED (0 .. 9): one below", COAST + "mesh(0,-1)=OUTSIDE mesh(0,MIN)=OUTSIDE post(0,1)=4");
        edge("MESHED (0 .. 9): one above", COAST + "mesh(0,10)=OUTSIDE mesh(0,MAX)=OUTSIDE post(0,1)=4");
        edge("MESHED: to what it is", COAST + "mesh(0,4)=4 post(0,1)=4 told(15)=1");
        edge("MESHED: UNKNOWN", COAST + "mesh(2,1)=UNKNOWN mesh(-1,1)=UNKNOWN mesh(MIN,1)=UNKNOWN mesh(MAX,1)=UNKNOWN");
        edge("MESHED: UNKNOWN comes ahead of OUTSIDE", COAST + "mesh(2,10)=UNKNOWN mesh(-1,-1)=UNKNOWN");
        edge("MESHED: UNKNOWN without POSTS", "mesh(0,1)=UNKNOWN coast<f1 0;>=0 mesh(0,1)=UNKNOWN");
    }

    private static void moved() {
        edge("MOVED: to the first CELL", COAST + "move(1,0)=3 post(1,0)=0 post(0,0)=1");
        edge("MOVED: to the last CELL", COAST + "move(1,4)=3 post(1,0)=4");
        edge("MOVED: where another was", COAST + "move(0,0)=1 move(1,1)=3 post(0,0)=0 post(1,0)=1");
        edge("MOVED: with its JAR", COAST + "hour(1)=12 move(0,4)=1 post(0,4)=12");
        edge("MOVED: a CELL that there is not", COAST + "move(0,5)=UNKNOWN move(0,-1)=UNKNOWN move(0,MIN)=UNKNOWN "
            + "move(0,MAX)=UNKNOWN");
        edge("MOVED: a POST that there is not", COAST + "move(2,0)=UNKNOWN move(-1,0)=UNKNOWN move(MIN,0)=UNKNOWN "
            + "move(MAX,0)=UNKNOWN");
        edge("MOVED: NOT: there is a POST", COAST + "move(0,3)=NOT move(1,1)=NOT");
        edge("MOVED: NOT: its own CELL has a POST", COAST + "move(0,1)=NOT move(1,3)=NOT");
        edge("MOVED: UNKNOWN comes ahead of NOT", COAST + "move(2,1)=UNKNOWN move(-1,3)=UNKNOWN");
        edge("MOVED: the only CELL", "coast<f1 0;p0 0 1 0;>=1 move(0,0)=NOT move(0,1)=UNKNOWN");
        edge("MOVED: a full ridge", "coast<f2 0;p0 0 1 0;p1 0 1 0;>=2 move(0,1)=NOT move(1,0)=NOT");
        edge("MOVED: UNKNOWN without POSTS", "move(0,0)=UNKNOWN coast<f1 0;>=0 move(0,0)=UNKNOWN");
    }

    private static void lit() {
        edge("LIT: 1 it was lit, 0 not", COAST + "lamp(true)=0 told(8)=1 lamp(true)=1 told(8)=1 lamp(false)=1 told(8)=0 "
            + "lamp(false)=0 told(8)=0 told(15)=4");
        edge("LIT: NOT: no COAST", "lamp(true)=NOT lamp(false)=NOT told(8)=0");
        edge("LIT: NOT: no COAST any more", COAST + "lamp(true)=0 coast()=0 lamp(false)=NOT told(8)=0");
    }

    private static void hourCall() {
        edge("n HOURS (1 .. 60): the least", COAST + "hour(1)=12 told(6)=0 told(7)=1 told(15)=1");
        edge("n HOURS (1 .. 60): the greatest", COAST + "hour(60) told(6)=30 told(7)=0");
        edge("n HOURS (1 .. 60): one below", COAST + "hour(0)=OUTSIDE hour(-1)=OUTSIDE hour(MIN)=OUTSIDE");
        edge("n HOURS (1 .. 60): one above", COAST + "hour(61)=OUTSIDE hour(MAX)=OUTSIDE");
        edge("what all nets took: as often one by one", COAST + "7xhour(1) told(6)=3 undo(7)=0 hour(7)=62");
        edge("hour(): NOT: no COAST", "hour(1)=NOT hour(60)=NOT");
        edge("hour(): OUTSIDE comes ahead of NOT", "hour(0)=OUTSIDE hour(61)=OUTSIDE");
        String days = "coast<f1 0;> 149xhour(60)=0 ";
        edge("DAYS are above 9000: 9000 are not", days + "hour(60)=0 told(6)=9000 hour(1)=0 told(6)=9001");
        edge("DAYS are above 9000: 9001 are", days + "hour(60)=0 hour(1)=0 told(6)=9001 hour(1)=FULL hour(60)=FULL told(6)=9001");
        edge("(as it is called): it goes on above 9000", days + "hour(60)=0 hour(60)=0 told(6)=9060 hour(1)=FULL");
        edge("DAYS are above 9000: OUTSIDE comes ahead of FULL", days + "hour(60)=0 hour(1)=0 hour(0)=OUTSIDE hour(61)=OUTSIDE");
        edge("DAYS are above 9000: undone, they are not", days + "hour(60)=0 hour(1)=0 hour(1)=FULL undo(1)=9000 hour(1)=0");
        edge("DAYS are above 9000: all but hours goes on", "coast<f2 0;h0 10;p0 0 9 0;> 151xhour(60) hour(1)=FULL lick(0,1)=8 "
            + "mesh(0,5)=0 move(0,1)=0 lamp(true)=0 carry(0)=8 gets(0,2)=8 level(0,2)=8 told(15)=30");
        edge("DAYS are above 9000 in the last HOUR of 9000", "coast<f1 0;h0 0;h0 0;> 300xhour(60)=0 told(6)=9000 hour(1)=0 "
            + "told(6)=9000 told(7)=1 hour(1)=0 told(6)=9001 hour(1)=FULL");
    }
}
