/**
 * Each boundary that section 1 of the document, THE COAST, and promises 1 to 4 name, sentence by sentence.
 * What a test is called begins with the document's words.
 */
public final class EdgesOfTextTest {
    private static final String BLANK = " ";
    /** Something of everything, so that whatever a text changes wrongly is seen. */
    private static final String SETUP = "coast<f5 6;h0 30;h1 10;p1 4 15 0;p3 2 50 1;d5 6;u4 7;g1 3;> seed(77) hour(3) "
        + "carry(0) keep(1) lick(1,2) lamp(true) hour(2) mesh(0,8) move(1,4) got(0,0,3) write(1,5)";

    public static void main(String[] args) {
        lettersOfTheText();
        boundsOfNumbers();
        cellsOfSmallCoasts();
        howManyClauses();
        untold();
        figures();
        firstLetters();
        lettersBehindAClause();
        lettersWhereANumberIsDue();
        lettersBehindANumber();
        blanks();
        firstFault();
        leastFault();
        endOfTheText();
        faultOne();
        faultThree();
        faultFour();
        noCoast();
        whatACoastForgets();
        whatAFaultLeaves();
        fault();
        Check.end();
    }

    private static void edge(String sentence, String told) {
        Script.edge(sentence, told);
    }

    // ---- 240 letters at most; feed()

    private static void lettersOfTheText() {
        edge("A letter (0 .. 255): the least", "feed(0)=1 told(5)=1");
        edge("A letter (0 .. 255): the greatest", "feed(255)=1 feed(255)=2 told(5)=2");
        edge("A letter (0 .. 255): one below", "feed(102)=1 feed(-1)=OUTSIDE told(5)=1");
        edge("A letter (0 .. 255): one above", "feed(102)=1 feed(256)=OUTSIDE told(5)=1");
        edge("A letter (0 .. 255): far out", "feed(MIN)=OUTSIDE feed(MAX)=OUTSIDE feed(358)=OUTSIDE told(5)=0");
        String first = "f2 0;";
        String last = "h1 40;";
        String full = first + BLANK.repeat(240 - first.length() - last.length()) + last;
        edge("240 letters at most: the 239th is taken", "238xfeed(32) feed(32)=239 told(5)=239");
        edge("240 letters at most: the 240th is taken", "239xfeed(32) feed(32)=240 told(5)=240");
        edge("240 letters at most: a 241st is not", "240xfeed(32) feed(102)=FULL told(5)=240");
        edge("OUTSIDE comes ahead of FULL", "240xfeed(32) feed(256)=OUTSIDE feed(-1)=OUTSIDE told(5)=240");
        edge("the 240th letter is read", "coast<" + full + ">=0 fog(0,0)=1 fog(0,1)=40 told(0)=2");
        edge("a 241st letter is not read", "feed<" + full + "> feed(120)=FULL coast()=0 fog(0,1)=40");
        edge("a fault at the 240th letter", "coast<" + full.substring(0, 239) + ",>=-11 fault()=239");
        edge("the end of 240 letters", "coast<" + full.substring(0, 239) + "0>=-12 fault()=237");
        edge("the end of 240 letters", "coast<" + full.substring(0, 239) + " >=-11 fault()=240");
        edge("it is empty behind a coast()", "coast<" + full + ">=0 told(5)=0 feed(102)=1");
        edge("it is empty behind a FAULT, too", "240xfeed(120) coast()=-11 told(5)=0 feed(102)=1");
    }

    // ---- every number's bounds

    /** The number is taken from least to most, and what was told is answered; all others are faults at it. */
    private static void bounds(String sentence, String ahead, int least, int most, String behind, String call) {
        for (int n = 0; n <= 999; n++) {
            FogNets x = new FogNets();
            Check.feed(x, ahead + n + behind);
            boolean taken = n >= least && n <= most;
            String what = sentence + ": " + ahead + n + behind;
            if (!taken) {
                Check.due(what, x.coast(), -12);
                Check.due("fault() of " + what, x.fault(), ahead.length());
            } else {
                edge(what, "coast<" + ahead + n + behind + "> fault()=NONE " + call + "=" + n);
            }
        }
        Check.dueFault(ahead + "-1" + behind, -11, ahead.length());
        Check.dueFault(ahead + "1000" + behind, -12, ahead.length());
        Check.dueFault(ahead + "000" + least + behind, -12, ahead.length());
    }

    private static void boundsOfNumbers() {
        bounds("N 1 .. 12", "f", 1, 12, " 0;", "told(0)");
        bounds("V, 0 .. 20", "f1 ", 0, 20, ";", "told(1)");
        bounds("the left, D 0, or the right, D 1", "f1 0;h", 0, 1, " 7;", "fog(0,0)");
        bounds("fog G, 0 .. 40", "f1 0;h1 ", 0, 40, ";", "fog(0,1)");
        bounds("CELL A of a post", "f12 0;p", 0, 11, " 5 9 1;", "post(0,0)");
        bounds("MESH M, 0 .. 9", "f1 0;p0 ", 0, 9, " 9 1;", "post(0,1)");
        bounds("J gills, 1 .. 99", "f1 0;p0 5 ", 1, 99, " 1;", "post(0,2)");
        bounds("of VILLAGE C, 0 or 1", "f1 0;p0 5 9 ", 0, 1, ";", "post(0,3)");
        bounds("R, a SET of days, 0 .. 127", "f1 0;d", 0, 127, " 5;", "village(0,0)");
        bounds("Q, a SET of days, 0 .. 127", "f1 0;d5 ", 0, 127, ";", "village(1,0)");
        bounds("U a day, 0 .. 99", "f1 0;u", 0, 99, " 5;", "village(0,1)");
        bounds("W a day, 0 .. 99", "f1 0;u5 ", 0, 99, ";", "village(1,1)");
        bounds("CELL A of a goat", "f12 0;g", 0, 11, " 5;", "goat(0,0)");
        bounds("drinks W gills a day, 1 .. 20", "f1 0;g0 ", 1, 20, ";", "goat(0,1)");
    }

    private static void cellsOfSmallCoasts() {
        for (int cells = 1; cells <= 12; cells++) {
            String f = "f" + cells + " 0;";
            int last = cells - 1;
            edge("CELLS 0 .. N less 1: the last one has a post", "coast<" + f + "p" + last + " 0 1 0;>=1 post(0,0)=" + last);
            edge("CELLS 0 .. N less 1: the last one has a goat", "coast<" + f + "g" + last + " 1;>=0 goat(0,0)=" + last);
            Check.dueFault(f + "p" + cells + " 0 1 0;", -12, f.length() + 1);
            Check.dueFault(f + "g" + cells + " 1;", -12, f.length() + 1);
        }
    }

    // ---- how many of each word

    private static void howManyClauses() {
        StringBuilder hours = new StringBuilder("f1 0;");
        for (int h = 0; h < 12; h++) hours.append('h').append(h % 2).append(' ').append(h).append(';');
        edge("12 HOURS of a day at most: the 12th", "coast<" + hours + ">=0 told(2)=12 fog(11,0)=1 fog(11,1)=11");
        edge("12 HOURS of a day at most: 12 from 0 on", "coast<" + hours + ">=0 fog(12,0)=OUTSIDE fog(0,1)=0");
        Check.dueFault(hours + "h0 0;", -13, hours.length());
        StringBuilder posts = new StringBuilder("f7 0;");
        for (int p = 0; p < 6; p++) posts.append('p').append(6 - p).append(" 0 ").append(p + 1).append(" 0;");
        edge("6 POSTS at most: the sixth", "coast<" + posts + ">=6 told(3)=6 post(5,0)=1 post(5,2)=6 post(6,0)=UNKNOWN");
        Check.dueFault(posts + "p0 0 1 0;", -13, posts.length());
        StringBuilder goats = new StringBuilder("f1 0;");
        for (int g = 0; g < 4; g++) goats.append("g0 ").append(g + 1).append(';');
        edge("4 GOATS at most: the fourth", "coast<" + goats + ">=0 told(4)=4 goat(3,1)=4 goat(4,0)=UNKNOWN");
        Check.dueFault(goats + "g0 1;", -13, goats.length());
        edge("without posts", "coast<f1 0;>=0 told(3)=0 post(0,0)=UNKNOWN village(0,4)=0 village(1,4)=0");
        edge("without goats", "coast<f1 0;>=0 told(4)=0 goat(0,0)=UNKNOWN");
        edge("one post", "coast<f1 0;p0 0 1 0;>=1 told(3)=1 post(1,0)=UNKNOWN");
        edge("one goat", "coast<f1 0;g0 1;>=0 told(4)=1 goat(1,0)=UNKNOWN");
        edge("one hour", "coast<f1 0;h1 5;>=0 told(2)=1 fog(0,1)=5 fog(1,1)=OUTSIDE");
        edge("12 hours, 6 posts, 4 goats in 240 letters", "coast<f6 0;h0 1;h0 2;h0 3;h0 4;h0 5;h0 6;h0 7;h0 8;h0 9;h0 0;"
            + "h0 1;h1 40;p0 0 1 0;p1 0 1 0;p2 0 1 0;p3 0 1 0;p4 0 1 0;p5 9 99 1;d1 2;u3 4;g0 1;g0 1;g0 1;g5 20;>=6 "
            + "told(2)=12 told(4)=4 fog(11,1)=40 post(5,2)=99 village(1,0)=2 village(1,1)=4 goat(3,0)=5");
    }

    private static void untold() {
        edge("127 untold", "coast<f1 0;>=0 village(0,0)=127 village(1,0)=127");
        edge("127 untold, also without a COAST: a new object", "village(0,0)=127 village(1,0)=127");
        edge("127 untold, also without a COAST: an empty text", "coast<f1 0;d1 2;>=0 village(0,0)=1 coast()=0 "
            + "village(0,0)=127 village(1,0)=127");
        edge("127 untold: not what an older text told", "coast<f1 0;d1 2;>=0 coast<f1 0;>=0 coast<f1 0;>=0 "
            + "village(0,0)=127 village(1,0)=127");
        edge("0 untold", "coast<f1 0;>=0 village(0,1)=0 village(1,1)=0");
        edge("0 untold: a new object", "village(0,1)=0 village(1,1)=0");
        edge("0 untold: an empty text", "coast<f1 0;u1 2;>=0 village(1,1)=2 coast()=0 village(0,1)=0 village(1,1)=0");
        edge("0 untold: not what an older text told", "coast<f1 0;u1 2;>=0 coast<f1 0;>=0 coast<f1 0;>=0 "
            + "village(0,1)=0 village(1,1)=0");
        edge("hours, posts, goats of an older text", "coast<f2 0;h1 9;h1 9;p1 3 9 1;g1 5;>=1 coast<f2 0;>=0 coast<f2 0;>=0 "
            + "told(2)=1 told(3)=0 told(4)=0 fog(NONE,0)=0 fog(NONE,1)=0 village(1,4)=0");
        edge("an older text of more goats", "coast<f1 0;g0 20;g0 20;>=0 coast<f1 0;>=0 coast<f1 0;h0 10;p0 0 99 0;g0 1;>=1 hour(1)=9 "
            + "post(0,4)=8 told(12)=1 coast<f1 0;>=0 coast<f1 0;h0 10;p0 0 99 0;>=1 hour(1)=9 post(0,4)=9 told(12)=0");
        edge("a text with a fault of more goats", "coast<f1 0;g0 20;g0 20;x>=-11 coast<f1 0;h0 10;p0 0 99 0;>=1 hour(1)=9 post(0,4)=9");
        edge("an older text of more posts", "coast<f2 0;p0 3 9 1;p1 3 9 1;>=2 coast<f2 0;>=0 coast<f2 0;p1 3 9 0;>=1 "
            + "village(0,4)=1 village(1,4)=0 move(0,0)=1");
    }

    // ---- NUMBERS

    private static void figures() {
        Check.dueFault("f 0;", -12, 2);
        Check.dueFault("f;", -11, 1);
        Check.dueFault("f1;", -11, 2);
        edge("NUMBERS have one to three figures: one", "coast<f2 0;>=0 told(0)=2");
        edge("NUMBERS have one to three figures: two", "coast<f02 00;>=0 told(0)=2 told(1)=0");
        edge("NUMBERS have one to three figures: three", "coast<f012 020;d127 099;>=0 told(0)=12 told(1)=20 village(1,0)=99");
        Check.dueFault("f0001 0;", -12, 1);
        Check.dueFault("f1 0000;", -12, 3);
        Check.dueFault("f1 0;h0001 0;", -12, 6);
        Check.dueFault("f1 0;g0 0001;", -12, 8);
        // Figures that would be a sound number if they ran over.
        Check.dueFault("f4294967297 0;", -12, 1);
        Check.dueFault("f18446744073709551617 0;", -12, 1);
        Check.dueFault("f" + "0".repeat(239), -12, 1);
        Check.dueFault("f1 " + "9".repeat(237), -12, 3);
    }

    // ---- which letter can stand where: all 256

    private static void dueLetter(String ahead, int letter, int answer, int place) {
        Check.dueFault(ahead + (char) letter, answer, place);
    }

    private static void firstLetters() {
        for (int c = 0; c <= 255; c++) {
            if (c == ' ') dueLetter("", c, 0, Check.NONE);
            else if (c == 'f') dueLetter("", c, -11, 1);
            else dueLetter("", c, -11, 0);
        }
        for (String word : new String[] {"h0 0;", "p0 0 1 0;", "d0 0;", "u0 0;", "g0 1;"}) {
            Check.dueFault(word, -11, 0);
            Check.dueFault("  " + word + "f1 0;", -11, 2);
        }
    }

    private static void lettersBehindAClause() {
        for (int c = 0; c <= 255; c++) {
            if (c == ' ') dueLetter("f1 0;", c, 0, Check.NONE);
            else if (c == 'f') dueLetter("f1 0;", c, -13, 5);
            else if ("hpdug".indexOf(c) >= 0) dueLetter("f1 0;", c, -11, 6);
            else dueLetter("f1 0;", c, -11, 5);
        }
    }

    private static void lettersWhereANumberIsDue() {
        for (int c = 0; c <= 255; c++) {
            boolean figure = c >= '0' && c <= '9';
            if (c == '0') dueLetter("f", c, -12, 1);
            else if (figure || c == ' ') dueLetter("f", c, -11, 2);
            else dueLetter("f", c, -11, 1);
            if (figure || c == ' ') dueLetter("f1 ", c, -11, 4);
            else dueLetter("f1 ", c, -11, 3);
        }
    }

    private static void lettersBehindANumber() {
        for (int c = 0; c <= 255; c++) {
            boolean figure = c >= '0' && c <= '9';
            if (c >= '3' && c <= '9') dueLetter("f1", c, -12, 1);
            else if (figure || c == ' ') dueLetter("f1", c, -11, 3);
            else dueLetter("f1", c, -11, 2);
            if (c == ';') dueLetter("f1 0", c, 0, Check.NONE);
            else if (figure || c == ' ') dueLetter("f1 0", c, -11, 5);
            else dueLetter("f1 0", c, -11, 4);
        }
    }

    private static void blanks() {
        String[] parts = {"", "f", "12", "20", ";", "h", "1", "40", ";", "p", "11", "9", "99", "1", ";", "d", "127", "126", ";",
            "u", "98", "99", ";", "g", "10", "20", ";", ""};
        String seen = "=1 told(0)=12 told(1)=20 fog(0,0)=1 fog(0,1)=40 post(0,0)=11 post(0,1)=9 post(0,2)=99 post(0,3)=1 "
            + "village(0,0)=127 village(1,0)=126 village(0,1)=98 village(1,1)=99 goat(0,0)=10 goat(0,1)=20 fault()=NONE";
        for (int gap = 0; gap <= parts.length - 1; gap++) {
            for (int many = 0; many <= 3; many++) {
                StringBuilder text = new StringBuilder();
                for (int k = 0; k < parts.length; k++) {
                    boolean numbers = k > 0 && isNumber(parts[k - 1]) && isNumber(parts[k]);
                    text.append(BLANK.repeat(k == gap ? Math.max(many, numbers ? 1 : 0) : numbers ? 1 : 0)).append(parts[k]);
                }
                edge("blanks (32) may stand anywhere", "coast<" + text + ">" + seen);
            }
        }
        Check.dueFault("f1 2 0;", -11, 5);
        Check.dueFault("f1 0;p0 0 9 9 0;", -12, 12);
        Check.dueFault("f1 0;d12 7 0;", -11, 11);
        // Two numbers side by side without a blank are one.
        Check.dueFault("f120;", -12, 1);
        Check.dueFault("f12;", -11, 3);
        Check.dueFault("f1 0;u11;", -11, 8);
    }

    private static boolean isNumber(String part) {
        return !part.isEmpty() && Character.isDigit(part.charAt(0));
    }

    // ---- FAULTS

    private static void firstFault() {
        Check.dueFault("f13 x", -12, 1);
        Check.dueFault("fx 13", -11, 1);
        Check.dueFault("f1 0;h2 0;f1 0;", -12, 6);
        Check.dueFault("f1 0;f1 0;h2 0;", -13, 5);
        Check.dueFault("f2 0;p0 0 1 0;p0 10 1 0;", -14, 15);
        Check.dueFault("f2 0;p0 10 1 0;p0 0 1 0;", -12, 8);
        Check.dueFault("f2 0;p0 0 1 0;p1 0 1 0;p1 0 1 0;", -14, 24);
        Check.dueFault("f2 0;p1 0 100 2;", -12, 10);
        Check.dueFault("f2 0;p1 0 1 2", -12, 12);
        Check.dueFault("x", -11, 0);
        Check.dueFault("f2 0;g0 1;x;y", -11, 10);
    }

    private static void leastFault() {
        // 1 and 3: a word where it can't stand, that is there again.
        Check.dueFault("f1 f", -11, 3);
        Check.dueFault("f1 0 f", -11, 5);
        Check.dueFault("f1 0;d1 d", -11, 8);
        Check.dueFault("f1 0;u1 1 u1 1;", -11, 10);
        Check.dueFault("f1 0;" + "h0 0;".repeat(12) + "u0 h", -11, 68);
        Check.dueFault("f6 0;p0 0 1 0;p1 0 1 0;p2 0 1 0;p3 0 1 0;p4 0 1 0;p5 0 1 0;g p", -11, 61);
        Check.dueFault("f1 0;g0 1;g0 1;g0 1;g0 1 g", -11, 25);
        // 2 and 4: four figures that would be a cell with a post.
        Check.dueFault("f1 0;p0 0 1 0;p0000 0 1 0;", -12, 15);
        // 3 and 4: a seventh post where one is.
        Check.dueFault("f7 0;p0 0 1 0;p1 0 1 0;p2 0 1 0;p3 0 1 0;p4 0 1 0;p5 0 1 0;p0 0 1 0;", -13, 59);
    }

    /** Behind each of its letters a sound text may end: it is at fault there, if a clause is begun. */
    private static void endOfTheText() {
        String text = " f12 20 ;h1 40;p 11 9 99 1;d127 126;u98 99; g10 20 ; ";
        boolean begun = false;
        for (int end = 0; end <= text.length(); end++) {
            if (end > 0 && text.charAt(end - 1) == ';') begun = false;
            if (end > 0 && "fhpdug".indexOf(text.charAt(end - 1)) >= 0) begun = true;
            FogNets x = new FogNets();
            Check.feed(x, text.substring(0, end));
            String what = "(the end at the text's length): '" + text.substring(0, end) + "'";
            if (begun) {
                Check.due(what, x.coast(), -11);
                Check.due("fault() " + what, x.fault(), end);
            } else {
                Check.due(what, x.coast(), end >= 27 ? 1 : 0);
                Check.due("fault() " + what, x.fault(), Check.NONE);
            }
        }
    }

    private static void faultOne() {
        Check.dueFault("F1 0;", -11, 0);
        Check.dueFault("ff1 0;", -11, 1);
        Check.dueFault("f1 0;hh1 1;", -11, 6);
        Check.dueFault("f1 0;;", -11, 5);
        Check.dueFault("f1 0;1", -11, 5);
        Check.dueFault("f1 0,", -11, 4);
        Check.dueFault("f1 0 0;", -11, 5);
        Check.dueFault("f1 0;h1;", -11, 7);
        Check.dueFault("f1 0;h1 1 1;", -11, 10);
        Check.dueFault("f1 0;p0 0 1;", -11, 11);
        Check.dueFault("f1 0;p0 0 1 0 0;", -11, 14);
        Check.dueFault("f1 0;d1;", -11, 7);
        Check.dueFault("f1 0;d1 1 1;", -11, 10);
        Check.dueFault("f1 0;u1;", -11, 7);
        Check.dueFault("f1 0;u1 1 1;", -11, 10);
        Check.dueFault("f1 0;g0;", -11, 7);
        Check.dueFault("f1 0;g0 1 1;", -11, 10);
    }

    private static void faultThree() {
        // At the word, whatever comes behind it.
        Check.dueFault("f1 0;f", -13, 5);
        Check.dueFault("f1 0; f1 0;", -13, 6);
        Check.dueFault("f1 0;f1 0;", -13, 5);
        Check.dueFault("f1 0;d1 1;d", -13, 10);
        Check.dueFault("f1 0;d127 127;d127 127;", -13, 14);
        Check.dueFault("f1 0;d1 1;u1 1;  dx", -13, 17);
        Check.dueFault("f1 0;u1 1;u", -13, 10);
        Check.dueFault("f1 0;u0 0;u0 0;", -13, 10);
        Check.dueFault("f1 0;u1 1;d1 1;u9", -13, 15);
        Check.dueFault("f1 0;" + "h0 0;".repeat(12) + "h", -13, 65);
        Check.dueFault("f1 0;" + "h0 0;".repeat(12) + "d1 1; hx", -13, 71);
        Check.dueFault("f7 0;p0 0 1 0;p1 0 1 0;p2 0 1 0;p3 0 1 0;p4 0 1 0;p5 0 1 0;p", -13, 59);
        Check.dueFault("f1 0;g0 1;g0 1;g0 1;g0 1;g", -13, 25);
        // 'd' and 'u' of an older text do not count, nor do those of one with a fault.
        edge("'d', 'u' again: of this text", "coast<f1 0;d1 1;u1 1;>=0 coast<f1 0;u2 2;d2 2;>=0 village(0,0)=2 village(0,1)=2");
        edge("'d', 'u' again: of this text", "coast<f1 0;d1 1;u1 1;x>=-11 coast<f1 0;u2 2;d2 2;>=0 village(0,0)=2");
    }

    private static void faultFour() {
        Check.dueFault("f1 0;p0 0 1 0;p0", -14, 15);
        Check.dueFault("f12 0;p11 0 1 0;p 11 0 1 0;", -14, 18);
        Check.dueFault("f12 0;p11 0 1 0;p011 0 1 0;", -14, 17);
        Check.dueFault("f12 0;p11 0 1 0;p1 0 1 0;p1x", -14, 26);
        Check.dueFault("f6 0;p0 0 1 0;p1 0 1 0;p2 0 1 0;p3 0 1 0;p4 0 1 0;p4 0 1 0;", -14, 51);
        edge("an A that has a POST already: a goat may be there", "coast<f1 0;p0 0 1 0;g0 1;g0 1;>=1 told(4)=2");
        edge("an A that has a POST already: of this text", "coast<f1 0;p0 0 1 0;>=1 coast<f1 0;p0 0 1 0;>=1");
    }

    // ---- coast()

    private static void noCoast() {
        String none = " fault()=NONE told(0)=0 told(1)=0 told(2)=0 told(3)=0 told(4)=0 told(9)=0 fog(NONE,0)=NOT hour(1)=NOT";
        edge("An empty text: no COAST", "coast()=0" + none);
        edge("An empty text (or of blanks alone): one", "coast< >=0" + none);
        edge("An empty text (or of blanks alone): 240", "240xfeed(32) coast()=0" + none);
        edge("An empty text behind a coast", SETUP + " coast()=0" + none);
        Script.alike("no COAST is as a new object", SETUP + " coast()", "seed(77)");
        Script.alike("no COAST is as a new object", SETUP + " coast<   >", "seed(77)");
        edge("other letters are no blanks", "feed(9) coast()=-11 fault()=0 feed(160) coast()=-11 fault()=0");
    }

    private static void whatACoastForgets() {
        String text = "coast<f6 3;h0 20;p2 3 9 0;p0 5 20 1;p5 1 30 1;g2 4;>";
        Script.alike("THE TEXT becomes THE COAST: nothing of the older one", SETUP + text, "seed(77)" + text);
        String same = "coast<f5 6;h0 30;h1 10;p1 4 15 0;p3 2 50 1;d5 6;u4 7;g1 3;>";
        Script.alike("THE TEXT becomes THE COAST: the same one", SETUP + same, "seed(77)" + same);
        edge("DAY 0, HOUR 0", SETUP + same + " told(6)=0 told(7)=0");
        edge("JARS, CISTERNS empty", SETUP + same + " told(10)=0 post(0,4)=0 post(1,4)=0 village(0,2)=0 village(1,2)=0");
        edge("the LAMP not lit", SETUP + same + " told(8)=0");
        edge("nothing counted", SETUP + same + " told(11)=0 told(12)=0 village(0,3)=0 village(1,3)=0");
        edge("nothing GOT, no BOOK", SETUP + same + " told(13)=0 told(14)=0 thick(0)=41 judge()=NONE tear()=0");
        edge("IMAGES are gone", SETUP + " keep(0)=1 keep(1)=1 " + same + " goBack(0)=NOT goBack(1)=NOT");
        edge("what could be undone is gone", SETUP + same + " told(15)=0 undo(1)=NOT");
        edge("THE SEED stays", SETUP + same + " seed(5)=77");
        edge("THE SEED stays with an empty text", SETUP + "coast() seed(5)=77");
    }

    private static void whatAFaultLeaves() {
        Script.faultLeavesAll("all else is as it was: fault 1", SETUP, "x", -11, 0);
        Script.faultLeavesAll("all else is as it was: fault 1", SETUP, "f3 1;h1 1;p0 1 1 0;p1 1 1 0;d1 1;u1 1;g0 1;x", -11, 43);
        Script.faultLeavesAll("all else is as it was: fault 1, the end", SETUP, "f3 1;h1 1;p0 1 1 0;d1 1;u1 1", -11, 28);
        Script.faultLeavesAll("all else is as it was: fault 2", SETUP, "f3 1;h1 1;p2 1 1 0;d1 128;", -12, 22);
        Script.faultLeavesAll("all else is as it was: fault 3", SETUP, "f3 1;d1 2;u3 4;h0 0;f", -13, 20);
        Script.faultLeavesAll("all else is as it was: fault 4", SETUP, "f3 1;p2 1 1 0;p2", -14, 15);
        Script.faultLeavesAll("all else is as it was: no COAST", "seed(3) keep(0)", "f3 1;p2 1 1 0;p2", -14, 15);
    }

    private static void fault() {
        edge("fault() of a new object", "fault()=NONE");
        edge("fault() of the latest coast()", "coast<x>=-11 fault()=0 fault()=0 coast<f1 0;x>=-11 fault()=5");
        edge("fault() behind a sound text", "coast<x>=-11 fault()=0 coast<f1 0;>=0 fault()=NONE");
        edge("fault() behind an empty text", "coast<x>=-11 fault()=0 coast()=0 fault()=NONE");
        edge("fault() while the next text comes", "coast<f1 x>=-11 feed<f1 0;> fault()=3 coast()=0 fault()=NONE");
        edge("coast(): -10 less the number of its FAULT", "coast<x>=-11 coast<f0>=-12 coast<f1 0;f>=-13 "
            + "coast<f1 0;p0 0 1 0;p0>=-14");
    }
}
