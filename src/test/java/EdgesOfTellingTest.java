/**
 * Each boundary that the document's "Terms" name for all calls, and promises 1 and 5 to 9, sentence by
 * sentence. What a test is called begins with the document's words.
 */
public final class EdgesOfTellingTest {
    private static final String COAST = "coast<" + CoastTest.COAST + "> ";
    /** Six posts; in a day their nets take 6, 5, 6, 6, 5, 6. */
    private static final String SIX_POSTS = "coast<f6 20;h0 40;h1 40;p0 1 99 1;p1 1 99 0;p2 1 99 1;p3 1 99 0;p4 1 99 1;p5 1 99 0;";
    private static final String SIX = SIX_POSTS + "g0 1;g1 2;g2 3;g3 20;> ";

    public static void main(String[] args) {
        terms();
        newObject();
        told();
        post();
        fog();
        village();
        goat();
        Check.end();
    }

    private static void edge(String sentence, String told) {
        Script.edge(sentence, told);
    }

    private static void terms() {
        Check.due("NONE", FogNets.NONE, -1);
        Check.due("REFUSALS: -1000000001 and on: UNKNOWN", FogNets.UNKNOWN, -1000000001);
        Check.due("REFUSALS: -1000000001 and on: OUTSIDE", FogNets.OUTSIDE, -1000000002);
        Check.due("REFUSALS: -1000000001 and on: NOT", FogNets.NOT, -1000000003);
        Check.due("REFUSALS: -1000000001 and on: FULL", FogNets.FULL, -1000000004);
        edge("BILLION is 1000000000", "clear(0,7)=1000000000");
        edge("What has a number has it from 0 on, as it comes: POSTS", "coast<f3 0;p2 1 7 0;p0 2 8 1;p1 3 9 0;>=3 post(0,0)=2 post(1,0)=0 "
            + "post(2,0)=1 post(0,2)=7 post(1,2)=8 post(2,2)=9 post(3,0)=UNKNOWN");
        edge("What has a number has it from 0 on, as it comes: GOATS", "coast<f3 0;g2 7;g0 8;g0 9;>=0 goat(0,1)=7 goat(1,1)=8 goat(2,1)=9 "
            + "goat(0,0)=2 goat(3,0)=UNKNOWN");
        edge("What has a number has it from 0 on, as it comes: HOURS", "coast<f3 0;h1 7;p0 1 1 1;h0 8;h1 9;>=1 fog(0,1)=7 fog(1,1)=8 "
            + "fog(2,1)=9 fog(3,1)=OUTSIDE");
        edge("A SET is a whole number, bit k for k: none", "coast<f1 0;>=0 told(9)=0 village(0,4)=0");
        edge("A SET is a whole number, bit k for k: all six", SIX + "told(9)=63 village(0,4)=42 village(1,4)=21");
        edge("/ cuts towards 0", "coast<f1 0;h0 11;h0 0;p0 0 99 0;u5 0;>=1 hour(1)=9 carry(0)=9 lasts(0)=1");
    }

    private static void newObject() {
        StringBuilder calls = new StringBuilder();
        for (int what = 0; what <= 15; what++) calls.append("told(").append(what).append(")=0 ");
        edge("A new object: No COAST", calls + "fault()=NONE judge()=NONE tear()=0 post(0,0)=UNKNOWN goat(0,0)=UNKNOWN left()=NOT");
        edge("A new object: nothing to undo, no IMAGE", "undo(1)=NOT goBack(0)=NOT goBack(1)=NOT");
        Script.alike("A new object is as behind an empty text", "", "coast()");
        Script.alike("One object knows nothing of another", "", COAST.replace("coast<", "feed<") + "coast() coast()");
    }

    private static void told() {
        edge("0 CELLS", "coast<f1 0;> told(0)=1 coast<f12 0;> told(0)=12");
        edge("1 V", "coast<f1 0;> told(1)=0 coast<f1 20;> told(1)=20");
        edge("2 HOURS that a day has (0: no COAST)", "told(2)=0 coast<f1 0;> told(2)=1 coast<f1 0;h0 0;> told(2)=1 coast<f1 0;h0 0;h0 0;> "
            + "told(2)=2 coast() told(2)=0");
        edge("3 POSTS", "coast<f1 0;> told(3)=0 " + SIX + "told(3)=6");
        edge("4 GOATS", "coast<f1 0;> told(4)=0 " + SIX + "told(4)=4");
        edge("5 letters of THE TEXT", "told(5)=0 feed(0) told(5)=1 239xfeed(32) told(5)=240");
        edge("6 DAYS", "coast<f1 0;> told(6)=0 151xhour(60) told(6)=9060");
        edge("7 the HOUR", "coast<f1 0;h0 0;h0 0;> told(7)=0 hour(1) told(7)=1 hour(1) told(7)=0");
        edge("8 1 the LAMP is lit, 0 not", "coast<f1 0;> told(8)=0 lamp(true) told(8)=1 lamp(false) told(8)=0");
        edge("9 POSTS whose nets HANG (a SET)", SIX + "told(9)=63 " + SIX.replace("> ", "d1 0;> ") + "told(9)=42 hour(2) told(9)=0");
        edge("10 what JARS have together", SIX_POSTS + "> told(10)=0 hour(60)=1020 told(10)=594 lick(5,99) told(10)=495");
        edge("11 SPILLED", "coast<f1 0;h0 10;p0 0 8 0;> told(11)=0 hour(1) told(11)=1");
        edge("12 what GOATS drank", SIX + "told(12)=0 hour(60) told(12)=360 hour(2) told(12)=372 undo(1) told(12)=360");
        edge("13 how many were GOT", COAST + "told(13)=0 6xgot(0,0,0) told(13)=6 got(0,0,0)=FULL told(13)=6");
        edge("14 entries of THE BOOK", COAST + "told(14)=0 20xwrite(0,0) told(14)=20 write(0,0)=FULL told(14)=20");
        edge("15 how many can be undone", COAST + "told(15)=0 lick(0,1) told(15)=1 28xlick(0,1) told(15)=29 lick(0,1) told(15)=30 lick(0,1) "
            + "told(15)=30 undo(1) told(15)=29 undo(29) told(15)=0");
        edge("told(): one below, one above", COAST + "told(-1)=OUTSIDE told(16)=OUTSIDE told(MIN)=OUTSIDE told(MAX)=OUTSIDE");
        edge("told(): one below, one above: no COAST", "told(-1)=OUTSIDE told(16)=OUTSIDE");
    }

    private static void post() {
        edge("Of a POST: the first, the last", COAST + "post(0,0)=1 post(0,1)=4 post(0,2)=15 post(0,3)=0 post(0,4)=0 post(1,0)=3 post(1,1)=2 "
            + "post(1,2)=50 post(1,3)=1 post(1,4)=0");
        edge("Of a POST: UNKNOWN: one below, one above", COAST + "post(-1,0)=UNKNOWN post(2,0)=UNKNOWN post(MIN,0)=UNKNOWN post(MAX,0)=UNKNOWN");
        edge("Of a POST: what: one below, one above", COAST + "post(0,-1)=OUTSIDE post(0,5)=OUTSIDE post(0,MIN)=OUTSIDE post(0,MAX)=OUTSIDE");
        edge("Of a POST: UNKNOWN comes ahead of OUTSIDE", COAST + "post(2,5)=UNKNOWN post(-1,-1)=UNKNOWN");
        edge("Of a POST: as it stands now", COAST + "move(0,4) mesh(0,9) hour(1)=27 post(0,0)=4 post(0,1)=9 post(0,2)=15 post(0,4)=15");
        edge("Of a POST: a JAR is full", "coast<f1 0;h0 40;p0 9 99 0;> hour(2) post(0,4)=72 hour(1) post(0,4)=99 hour(1) post(0,4)=99");
    }

    private static void fog() {
        edge("Of an HOUR of the text: the first, the last", COAST + "fog(0,0)=0 fog(0,1)=30 fog(1,0)=1 fog(1,1)=10");
        edge("(no such HOUR): one below NONE, one above", COAST + "fog(-2,0)=OUTSIDE fog(2,0)=OUTSIDE fog(MIN,0)=OUTSIDE fog(MAX,0)=OUTSIDE");
        edge("(what): one below, one above", COAST + "fog(0,-1)=OUTSIDE fog(0,2)=OUTSIDE fog(NONE,-1)=OUTSIDE fog(NONE,2)=OUTSIDE");
        edge("of the next HOUR: h = NONE", COAST + "fog(NONE,0)=0 fog(NONE,1)=30 hour(1) fog(NONE,0)=1 fog(NONE,1)=10 hour(1) fog(NONE,1)=30");
        edge("NOT: h is NONE, no COAST", "fog(NONE,0)=NOT fog(NONE,1)=NOT");
        edge("OUTSIDE: no COAST has no HOUR", "fog(0,0)=OUTSIDE fog(11,1)=OUTSIDE");
        edge("OUTSIDE comes ahead of NOT", "fog(NONE,2)=OUTSIDE fog(NONE,-1)=OUTSIDE");
        edge("NOT: h is NONE, no COAST any more", COAST + "coast()=0 fog(NONE,0)=NOT fog(0,0)=OUTSIDE");
    }

    private static void village() {
        edge("Of a VILLAGE: the first, the last", COAST + "village(0,0)=5 village(0,1)=4 village(0,2)=0 village(0,3)=0 village(0,4)=1 "
            + "village(1,0)=6 village(1,1)=7 village(1,2)=0 village(1,3)=0 village(1,4)=2");
        edge("UNKNOWN (not 0, 1)", COAST + "village(-1,0)=UNKNOWN village(2,0)=UNKNOWN village(MIN,0)=UNKNOWN village(MAX,0)=UNKNOWN");
        edge("UNKNOWN (not 0, 1): no COAST", "village(-1,0)=UNKNOWN village(2,0)=UNKNOWN village(0,4)=0 village(1,4)=0");
        edge("Of a VILLAGE: what: one below, one above", COAST + "village(0,-1)=OUTSIDE village(1,5)=OUTSIDE village(0,MIN)=OUTSIDE "
            + "village(0,MAX)=OUTSIDE");
        edge("Of a VILLAGE: UNKNOWN comes ahead of OUTSIDE", COAST + "village(2,5)=UNKNOWN village(-1,-1)=UNKNOWN");
        edge("Of a VILLAGE: POSTS (a SET): all, none", SIX.replace(" 99 1;", " 99 0;") + "village(0,4)=63 village(1,4)=0");
        edge("Of a VILLAGE: CISTERN, THIRST", COAST + "hour(1)=12 carry(0)=12 village(0,2)=12 hour(1)=5 village(0,2)=8 village(0,3)=0 "
            + "village(1,2)=0 village(1,3)=7");
    }

    private static void goat() {
        edge("Of a GOAT: the first, the last", COAST + "goat(0,0)=1 goat(0,1)=3 goat(1,0)=3 goat(1,1)=20");
        edge("Of a GOAT: the fourth", SIX + "goat(3,0)=3 goat(3,1)=20 goat(4,0)=UNKNOWN");
        edge("Of a GOAT: UNKNOWN: one below, one above", COAST + "goat(-1,0)=UNKNOWN goat(2,0)=UNKNOWN goat(MIN,0)=UNKNOWN goat(MAX,0)=UNKNOWN");
        edge("Of a GOAT: what: one below, one above", COAST + "goat(0,-1)=OUTSIDE goat(0,2)=OUTSIDE goat(0,MIN)=OUTSIDE goat(0,MAX)=OUTSIDE");
        edge("Of a GOAT: UNKNOWN comes ahead of OUTSIDE", COAST + "goat(2,2)=UNKNOWN goat(-1,-1)=UNKNOWN");
        edge("Of a GOAT: UNKNOWN: no COAST", "goat(0,0)=UNKNOWN goat(0,2)=UNKNOWN");
    }
}
