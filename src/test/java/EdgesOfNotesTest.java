/**
 * Each boundary that section 3 of the document names of what was GOT, THE BOOK, DRAWS, what is UNDONE and
 * IMAGES, and promises 16, 17 and 34 to 43, sentence by sentence. What a test is called begins with the
 * document's words.
 */
public final class EdgesOfNotesTest {
    private static final String COAST = "coast<" + CoastTest.COAST + "> ";
    /** Its net takes 36 of 40, 18 of 20 and 21, nothing of less. */
    private static final String WIDE = "coast<f1 5;h0 40;p0 9 99 0;> ";
    private static final int ANY = Check.NONE;

    public static void main(String[] args) {
        got();
        gotAsItStandsNow();
        thicknesses();
        lookAt();
        needs();
        book();
        tear();
        seed();
        drawnFogs();
        drawnLicks();
        drift();
        undo();
        undoEachDeed();
        whatIsNoDeed();
        images();
        whatAnImageKeeps();
        Check.end();
    }

    private static void edge(String sentence, String told) {
        Script.edge(sentence, told);
    }

    private static String seen(int many, int least, int most) {
        return "thick(0)=" + many + " thick(1)=" + least + " thick(2)=" + most + " ";
    }

    // ---- how thick it was

    private static void got() {
        edge("GOT (6 at most): the first", COAST + "got(0,0,3)=1 told(13)=1");
        edge("GOT (6 at most): the sixth", COAST + "5xgot(0,0,3) got(0,0,3)=6 told(13)=6");
        edge("GOT (6 at most): a seventh", COAST + "6xgot(0,0,3) got(0,0,3)=FULL got(1,1,0)=FULL told(13)=6");
        edge("the sixth counts", WIDE + "5xgot(0,0,18) " + seen(2, 20, 21) + "got(0,0,36)=6 " + seen(0, ANY, ANY));
        edge("a seventh does not", WIDE + "6xgot(0,0,18) got(0,0,36)=FULL " + seen(2, 20, 21));
        edge("GOT: FULL: UNKNOWN, OUTSIDE come ahead of it", COAST + "6xgot(0,0,3) got(2,0,3)=UNKNOWN got(-1,0,3)=UNKNOWN "
            + "got(0,2,3)=OUTSIDE got(0,-1,3)=OUTSIDE got(0,0,41)=OUTSIDE got(0,0,-1)=OUTSIDE");
        edge("GOT (x 0 .. 40): the least", WIDE + "got(0,0,0)=1 " + seen(20, 0, 19));
        edge("GOT (x 0 .. 40): the greatest", WIDE + "got(0,0,40)=1 " + seen(0, ANY, ANY));
        edge("GOT (x 0 .. 40): one below", WIDE + "got(0,0,-1)=OUTSIDE got(0,0,MIN)=OUTSIDE told(13)=0");
        edge("GOT (x 0 .. 40): one above", WIDE + "got(0,0,41)=OUTSIDE got(0,0,MAX)=OUTSIDE told(13)=0");
        edge("GOT: a side that is neither 0 nor 1", WIDE + "got(0,-1,3)=OUTSIDE got(0,2,3)=OUTSIDE got(0,MIN,3)=OUTSIDE "
            + "got(0,MAX,3)=OUTSIDE");
        edge("GOT: UNKNOWN", COAST + "got(2,0,3)=UNKNOWN got(-1,0,3)=UNKNOWN got(MIN,0,3)=UNKNOWN got(MAX,0,3)=UNKNOWN");
        edge("GOT: UNKNOWN comes ahead of OUTSIDE", COAST + "got(2,2,3)=UNKNOWN got(2,0,41)=UNKNOWN got(-1,-1,-1)=UNKNOWN");
        edge("GOT: UNKNOWN without POSTS", "got(0,0,3)=UNKNOWN coast<f1 0;>=0 got(0,0,3)=UNKNOWN");
    }

    private static void gotAsItStandsNow() {
        edge("LAMP not lit: it is", WIDE + "lamp(true)=0 got(0,0,36)=1 " + seen(1, 40, 40));
        edge("as POSTS stand when THICKNESSES are asked: MESHED", WIDE + "got(0,0,36)=1 " + seen(1, 40, 40) + "mesh(0,8)=9 "
            + seen(0, ANY, ANY) + "mesh(0,9)=8 " + seen(1, 40, 40));
        String two = "coast<f3 0;p1 5 99 0;p2 9 99 1;d1 3;> ";
        // Behind post 0, post 1 has 20 of 40: 18.
        edge("as POSTS stand when THICKNESSES are asked: MOVED", two + "got(1,0,18)=1 " + seen(2, 39, 40) + "move(1,0)=2 "
            + seen(2, 20, 21));
        edge("as nets hang when THICKNESSES are asked", two + "got(1,0,18)=1 " + seen(2, 39, 40) + "hour(1)=0 " + seen(2, 20, 21)
            + "hour(1)=0 " + seen(0, ANY, ANY));
        edge("came from a side", two + "got(1,1,18)=1 " + seen(2, 20, 21));
        edge("as POSTS stand when LOOK AT is asked", two + "lookAt(0)=0 move(1,0)=2 lookAt(0)=1 mesh(1,0)=9 lookAt(0)=0");
        edge("as nets hang when LOOK AT is asked", two + "lookAt(0)=0 hour(1)=0 lookAt(0)=1 hour(1)=0 lookAt(0)=NONE");
    }

    private static void thicknesses() {
        edge("THICKNESSES: nothing is GOT: all", WIDE + seen(41, 0, 40));
        edge("THICKNESSES: nothing is GOT: without POSTS", "coast<f1 0;>=0 " + seen(41, 0, 40));
        edge("THICKNESSES: the least one", "coast<f1 0;p0 1 9 0;>=1 got(0,0,0)=1 " + seen(2, 0, 1));
        edge("THICKNESSES: the greatest one", WIDE + "got(0,0,36)=1 " + seen(1, 40, 40));
        edge("THICKNESSES: one above the greatest's", WIDE + "got(0,0,37)=1 " + seen(0, ANY, ANY));
        edge("THICKNESSES: where thin ends", WIDE + "got(0,0,0)=1 " + seen(20, 0, 19));
        edge("THICKNESSES: where THICK begins", WIDE + "got(0,0,18)=1 " + seen(2, 20, 21));
        edge("THICKNESSES: with a gap", "coast<f1 0;p0 0 9 0;>=1 got(0,0,0)=1 " + seen(23, 0, 40));
        edge("THICKNESSES: it does not HANG", "coast<f1 0;p0 9 9 0;d0 0;>=1 got(0,0,0)=1 " + seen(41, 0, 40) + "got(0,0,1)=2 "
            + seen(0, ANY, ANY));
        edge("THICKNESSES by which all that was GOT is so", WIDE + "got(0,0,0)=1 got(0,1,0)=2 " + seen(20, 0, 19) + "got(0,0,18)=3 "
            + seen(0, ANY, ANY));
        edge("THICKNESSES: what = 0 how many, 1 the least, 2 the most: one below", COAST + "thick(-1)=OUTSIDE thick(MIN)=OUTSIDE");
        edge("THICKNESSES: what = 0 how many, 1 the least, 2 the most: one above", COAST + "thick(3)=OUTSIDE thick(MAX)=OUTSIDE");
        edge("THICKNESSES: NOT: no COAST", "thick(0)=NOT thick(1)=NOT thick(2)=NOT");
        edge("THICKNESSES: OUTSIDE comes ahead of NOT", "thick(-1)=OUTSIDE thick(3)=OUTSIDE");
    }

    private static void lookAt() {
        edge("LOOK AT: the greatest part is least", "coast<f2 0;p0 9 9 0;p1 0 9 1;>=2 lookAt(0)=1 lookAt(1)=0");
        // 11 is the greatest part by both.
        edge("LOOK AT, of like ones the least: it is the nearer one", "coast<f2 0;p0 1 9 0;p1 5 9 1;>=2 lookAt(0)=0");
        edge("LOOK AT, of like ones the least: it is the farther one", "coast<f2 0;p1 5 9 0;p0 1 9 1;>=2 lookAt(0)=0");
        edge("LOOK AT: NONE: without POSTS", "coast<f1 0;>=0 lookAt(0)=NONE lookAt(1)=NONE");
        edge("LOOK AT: NONE: no net hangs", "coast<f2 0;p0 5 9 0;p1 5 9 1;d0 0;>=2 lookAt(0)=NONE lookAt(1)=NONE");
        edge("LOOK AT: NONE: no THICKNESS is left", WIDE + "got(0,0,37)=1 lookAt(0)=NONE lookAt(1)=NONE");
        edge("LOOK AT: NONE: just one is left", WIDE + "got(0,0,36)=1 lookAt(0)=NONE lookAt(1)=NONE");
        edge("LOOK AT: NONE: two are left, and none parts them", WIDE + "got(0,0,18)=1 lookAt(0)=NONE");
        edge("LOOK AT: two are left, and one parts them", "coast<f2 0;p0 9 9 0;p1 0 9 1;>=2 got(0,0,18)=1 " + seen(2, 20, 21)
            + "lookAt(0)=1 lookAt(1)=NONE");
        edge("LOOK AT: the last of six", "coast<f6 0;p0 5 9 1;p1 5 9 1;p2 5 9 1;p3 5 9 1;p4 5 9 1;p5 5 9 0;d1 0;>=6 lookAt(0)=5");
        edge("LOOK AT: from a side: one below, one above", COAST + "lookAt(-1)=OUTSIDE lookAt(2)=OUTSIDE lookAt(MIN)=OUTSIDE "
            + "lookAt(MAX)=OUTSIDE");
        edge("LOOK AT: LAMP not lit", WIDE + "lookAt(0)=0 lamp(true)=0 lookAt(0)=0");
        edge("LOOK AT: NOT: no COAST", "lookAt(0)=NOT lookAt(1)=NOT");
        edge("LOOK AT: OUTSIDE comes ahead of NOT", "lookAt(-1)=OUTSIDE lookAt(2)=OUTSIDE");
    }

    private static void needs() {
        edge("NEEDS: x (0 .. 40): the least", WIDE + "needs(0,0,0)=0 needs(0,1,0)=0");
        edge("NEEDS: x (0 .. 40): the greatest", WIDE + "needs(0,0,40)=NONE");
        edge("NEEDS: x (0 .. 40): one below", WIDE + "needs(0,0,-1)=OUTSIDE needs(0,0,MIN)=OUTSIDE");
        edge("NEEDS: x (0 .. 40): one above", WIDE + "needs(0,0,41)=OUTSIDE needs(0,0,MAX)=OUTSIDE");
        edge("NEEDS: the least thickness (0 .. 40): the greatest", WIDE + "needs(0,0,35)=39 needs(0,0,36)=40 needs(0,0,37)=NONE");
        edge("NEEDS: where THICK begins", WIDE + "needs(0,0,1)=20 needs(0,0,18)=20 needs(0,0,19)=22");
        edge("NEEDS: where thin ends", "coast<f1 0;p0 0 9 0;>=1 needs(0,0,1)=2 needs(0,0,17)=19 needs(0,0,18)=NONE");
        // Mesh 8: a tenth of 10 to 19, 16 of 20.
        edge("NEEDS: x or more", "coast<f1 0;p0 8 9 0;>=1 needs(0,0,1)=10 needs(0,0,2)=20 needs(0,0,16)=20 needs(0,0,17)=22");
        edge("NEEDS: it does not HANG", "coast<f1 0;p0 5 9 0;d0 0;>=1 needs(0,0,0)=0 needs(0,0,1)=NONE");
        edge("NEEDS: from a side", "coast<f2 0;p0 5 9 0;p1 9 9 1;>=2 needs(1,0,18)=39 needs(1,1,18)=20");
        edge("NEEDS: no LAMP", WIDE + "lamp(true)=0 needs(0,0,36)=40");
        edge("NEEDS: a side that is neither 0 nor 1", WIDE + "needs(0,-1,3)=OUTSIDE needs(0,2,3)=OUTSIDE needs(0,MIN,3)=OUTSIDE "
            + "needs(0,MAX,3)=OUTSIDE");
        edge("NEEDS: UNKNOWN", WIDE + "needs(1,0,3)=UNKNOWN needs(-1,0,3)=UNKNOWN needs(MIN,0,3)=UNKNOWN needs(MAX,0,3)=UNKNOWN");
        edge("NEEDS: UNKNOWN comes ahead of OUTSIDE", WIDE + "needs(1,2,3)=UNKNOWN needs(1,0,41)=UNKNOWN needs(-1,-1,-1)=UNKNOWN");
        edge("NEEDS: UNKNOWN without POSTS", "needs(0,0,0)=UNKNOWN coast<f1 0;>=0 needs(0,0,0)=UNKNOWN");
    }

    private static void book() {
        edge("THE BOOK (20 at most): the first", COAST + "write(0,0)=1 told(14)=1");
        edge("THE BOOK (20 at most): the 20th", COAST + "19xwrite(0,0) write(1,0)=20 told(14)=20 judge()=NONE");
        edge("THE BOOK (20 at most): a 21st", COAST + "20xwrite(0,0) write(0,0)=FULL write(1,9)=FULL told(14)=20 judge()=NONE");
        edge("THE BOOK: FULL: UNKNOWN, OUTSIDE come ahead of it", COAST + "20xwrite(0,0) write(2,0)=UNKNOWN write(-1,0)=UNKNOWN "
            + "write(0,100)=OUTSIDE write(0,-1)=OUTSIDE");
        edge("An entry (0 .. 99): the least", WIDE + "write(0,0)=1 judge()=NONE");
        edge("An entry (0 .. 99): the greatest", WIDE + "hour(3)=108 write(0,99)=1 judge()=NONE lick(0,1)=98 judge()=0");
        edge("An entry (0 .. 99): one below", WIDE + "write(0,-1)=OUTSIDE write(0,MIN)=OUTSIDE told(14)=0");
        edge("An entry (0 .. 99): one above", WIDE + "write(0,100)=OUTSIDE write(0,MAX)=OUTSIDE told(14)=0");
        edge("An entry: UNKNOWN", COAST + "write(2,0)=UNKNOWN write(-1,0)=UNKNOWN write(MIN,0)=UNKNOWN write(MAX,0)=UNKNOWN");
        edge("An entry: UNKNOWN comes ahead of OUTSIDE", COAST + "write(2,100)=UNKNOWN write(-1,-1)=UNKNOWN");
        edge("An entry: UNKNOWN without POSTS", "write(0,0)=UNKNOWN coast<f1 0;>=0 write(0,0)=UNKNOWN");
        edge("WRONG: NONE: no BOOK", "judge()=NONE " + COAST + "judge()=NONE");
        edge("WRONG: the first that is otherwise now: of two", COAST + "write(0,1)=1 write(0,2)=2 judge()=0");
        edge("WRONG: the first that is otherwise now: the second", COAST + "write(1,0)=1 write(0,2)=2 write(1,3)=3 judge()=1");
        edge("WRONG: the first that is otherwise now: the 20th", COAST + "19xwrite(1,0) write(1,1)=20 judge()=19");
        edge("WRONG: now", WIDE + "write(0,36)=1 judge()=0 hour(1)=36 judge()=NONE hour(1)=36 judge()=0 undo(1)=1 judge()=NONE");
        edge("WRONG: one gill more, one less", WIDE + "hour(1)=36 write(0,36)=1 write(0,35)=2 judge()=1 tear()=2 write(0,37)=1 judge()=0");
        edge("WRONG: of one JAR both can't be", WIDE + "hour(1)=36 write(0,36)=1 write(0,0)=2 judge()=1 carry(0)=36 judge()=0");
    }

    private static void tear() {
        edge("Nothing GOT, no BOOK: how much both had: none", COAST + "tear()=0 told(13)=0 told(14)=0");
        edge("how much both had: no COAST", "tear()=0");
        edge("how much both had: both are full", COAST + "6xgot(0,0,3) 20xwrite(0,0) tear()=26 told(13)=0 told(14)=0 tear()=0");
        edge("how much both had: one alone", COAST + "got(0,0,3)=1 tear()=1 write(0,5)=1 tear()=1");
        edge("Nothing GOT: there is room again", COAST + "6xgot(0,0,3) got(0,0,3)=FULL tear()=6 got(0,0,3)=1");
        edge("no BOOK: there is room again", COAST + "20xwrite(0,0) write(0,0)=FULL tear()=20 write(0,0)=1");
        Script.alike("all else is as it was", COAST + "hour(3) keep(0) lick(0,1) got(0,0,3) write(1,1) tear()",
            COAST + "hour(3) keep(0) lick(0,1)");
    }

    // ---- BY DRAWS

    private static void seed() {
        edge("THE SEED (0 at first)", "seed(5)=0 seed(0)=5");
        edge("THE SEED (0 at first): with a COAST", COAST + "seed(5)=0");
        edge("v (0 .. 2147483647): the least", "seed(9)=0 seed(0)=9 seed(9)=0");
        edge("v (0 .. 2147483647): the greatest", "seed(2147483647)=0 seed(0)=2147483647");
        edge("v (0 .. 2147483647): one below", "seed(9)=0 seed(-1)=OUTSIDE seed(MIN)=OUTSIDE seed(0)=9");
        edge("THE SEED is no deed", COAST + "seed(9)=0 told(15)=0");
    }

    /** Without posts an hour takes two DRAWS. */
    private static void drawnFogs() {
        int[] seeds = {0, 1, 2, 65535, 65536, 12345, 1103515245, 1 << 30, Integer.MAX_VALUE - 1, Integer.MAX_VALUE};
        for (int s : seeds) {
            edge("it becomes it times 1103515245 and 12345, left over by 2 to the 31", "coast<f1 0;> seed(" + s + ") drift(1)=0 "
                + "seed(0)=" + Draws.behind(s, 2));
        }
        edge("if there are POSTS: there are none", "coast<f1 0;> seed(7) drift(60)=0 seed(0)=" + Draws.behind(7, 120));
        String two = "coast<f2 5;h0 1;h1 1;p0 9 99 0;p1 5 99 1;> ";
        edge("a DRAW of 41: the greatest fog, from the left", two + "seed(" + Draws.seedOf(41, 40, 2, 0, 8, 1) + ") drift(1)=37 "
            + "post(0,4)=36 post(1,4)=1");
        edge("a DRAW of 41: the greatest fog, from the right", two + "seed(" + Draws.seedOf(41, 40, 2, 1, 8, 1) + ") drift(1)=38 "
            + "post(0,4)=18 post(1,4)=20");
        edge("a DRAW of 41: the least fog", two + "seed(" + Draws.seedOf(41, 0, 2, 0, 8, 1) + ") drift(1)=0 told(7)=1");
        edge("a DRAW of 41: THICK", two + "seed(" + Draws.seedOf(41, 20, 2, 0, 8, 1) + ") drift(1)=18 post(0,4)=18");
        edge("a DRAW of 41: thin", two + "seed(" + Draws.seedOf(41, 19, 2, 0, 8, 1) + ") drift(1)=7 post(0,4)=0 post(1,4)=7");
        edge("V less, if the LAMP is lit", two + "lamp(true) seed(" + Draws.seedOf(41, 24, 2, 0, 8, 1) + ") drift(1)=7 post(1,4)=7");
        edge("V less (0 at least)", two + "lamp(true) seed(" + Draws.seedOf(41, 4, 2, 0, 8, 1) + ") drift(1)=0");
        edge("(instead of what the text tells)", "coast<f1 0;h0 40;p0 9 99 0;> seed(" + Draws.seedOf(41, 0, 2, 0, 8, 1)
            + ") drift(1)=0 fog(NONE,1)=40");
        for (int s = 0; s < 60; s++) {
            Draws d = new Draws(s);
            int fog = d.draw(41);
            int first = d.draw(2) == 0 ? 0 : 1;
            int takes = fog >= 20 ? fog * 5 / 10 : fog * 4 / 10;
            int there = fog - takes;
            int then = there >= 20 ? there * 5 / 10 : there * 4 / 10;
            edge("from the left, if a DRAW of 2 is 0", "coast<f2 0;p0 5 99 0;p1 5 99 1;> seed(" + s + ") drift(1)=" + (takes + then));
            if (d.draw(8) != 0) {
                edge("from the left, if a DRAW of 2 is 0", "coast<f2 0;p0 5 99 0;p1 5 99 1;> seed(" + s + ") drift(1) post(" + first
                    + ",4)=" + takes + " post(" + (1 - first) + ",4)=" + then + " seed(0)=" + Draws.behind(s, 3));
            }
        }
    }

    private static void drawnLicks() {
        String one = "coast<f1 0;p0 9 99 0;> ";
        edge("a DRAW of 8: on 0 a POST is LICKED", one + "seed(" + Draws.seedOf(41, 40, 2, ANY, 8, 0, 1, 0, 10, 9)
            + ") drift(1)=36 post(0,4)=27");
        edge("a DRAW of 8: on 1 none is", one + "seed(" + Draws.seedOf(41, 40, 2, ANY, 8, 1) + ") drift(1)=36 post(0,4)=36");
        edge("a DRAW of 8: on 7 none is", one + "seed(" + Draws.seedOf(41, 40, 2, ANY, 8, 7) + ") drift(1)=36 post(0,4)=36");
        edge("LICKED by a DRAW of 10: 0", one + "seed(" + Draws.seedOf(41, 40, 2, ANY, 8, 0, 1, 0, 10, 0) + ") drift(1)=36 post(0,4)=36");
        edge("LICKED by a DRAW of 10: 1", one + "seed(" + Draws.seedOf(41, 40, 2, ANY, 8, 0, 1, 0, 10, 1) + ") drift(1)=36 post(0,4)=35");
        edge("LICKED (0 at least)", one + "seed(" + Draws.seedOf(41, 0, 2, ANY, 8, 0, 1, 0, 10, 9) + ") drift(1)=0 post(0,4)=0 "
            + "told(11)=0 told(12)=0");
        int five = Draws.seedOf(41, ANY, 2, ANY, 8, 0);
        edge("on 0 it takes five DRAWS", one + "seed(" + five + ") drift(1) seed(0)=" + Draws.behind(five, 5));
        int three = Draws.seedOf(41, ANY, 2, ANY, 8, 5);
        edge("else three", one + "seed(" + three + ") drift(1) seed(0)=" + Draws.behind(three, 3));
        // Six posts have a jar of 1 gill each; the wind fills them all.
        String six = "coast<f6 0;p0 1 1 0;p1 1 1 1;p2 1 1 0;p3 1 1 1;p4 1 1 0;p5 1 1 1;> ";
        for (int p = 0; p < 6; p++) {
            int s = Draws.seedOf(41, 40, 2, ANY, 8, 0, 6, p, 10, 5);
            edge("a POST (a DRAW of these): " + p, six + "seed(" + s + ") drift(1)=17 told(10)=5 post(" + p + ",4)=0");
        }
        // The goat drinks 20 of 36, then 9 are licked; of 18 it drinks all, then nothing is left to lick.
        String goat = "coast<f1 0;h0 0;p0 9 99 0;g0 20;> ";
        edge("behind all that comes then", goat + "seed(" + Draws.seedOf(41, 40, 2, ANY, 8, 0, 1, 0, 10, 9)
            + ") drift(1)=36 post(0,4)=7 told(12)=20 told(6)=1");
        edge("behind all that comes then: the goat is the first", goat + "seed(" + Draws.seedOf(41, 20, 2, ANY, 8, 0, 1, 0, 10, 9)
            + ") drift(1)=18 post(0,4)=0 told(12)=18");
        edge("behind that HOUR: what SPILLS is gone", "coast<f1 0;p0 9 30 0;> seed(" + Draws.seedOf(41, 40, 2, ANY, 8, 0, 1, 0, 10, 9)
            + ") drift(1)=36 post(0,4)=21 told(11)=6");
        edge("what was LICKED of a net that does not hang", "coast<f1 0;h0 40;p0 9 99 0;d1 0;> hour(1)=36 seed("
            + Draws.seedOf(41, 40, 2, ANY, 8, 0, 1, 0, 10, 9) + ") drift(1)=0 post(0,4)=27");
    }

    private static void drift() {
        edge("n HOURS BY DRAWS (1 .. 60): the least", COAST + "drift(1) told(7)=1 told(15)=1");
        edge("n HOURS BY DRAWS (1 .. 60): the greatest", COAST + "drift(60) told(6)=30 told(7)=0");
        edge("n HOURS BY DRAWS (1 .. 60): one below", COAST + "seed(3) drift(0)=OUTSIDE drift(-1)=OUTSIDE drift(MIN)=OUTSIDE");
        edge("n HOURS BY DRAWS (1 .. 60): one above", COAST + "seed(3) drift(61)=OUTSIDE drift(MAX)=OUTSIDE");
        Script.alike("n HOURS BY DRAWS: as often one by one", COAST + "seed(3) drift(9)", COAST + "seed(3) 9xdrift(1)");
        edge("drift(): NOT: no COAST", "seed(3) drift(1)=NOT drift(60)=NOT seed(0)=3");
        edge("drift(): OUTSIDE comes ahead of NOT", "drift(0)=OUTSIDE drift(61)=OUTSIDE");
        String days = "coast<f1 0;> 149xhour(60)=0 hour(60)=0 ";
        edge("DAYS are above 9000: 9000 are not", days + "drift(60)=0 told(6)=9060");
        edge("DAYS are above 9000: 9001 are", days + "drift(1)=0 told(6)=9001 seed(3) drift(1)=FULL drift(60)=FULL hour(1)=FULL seed(0)=3");
        edge("DAYS are above 9000: OUTSIDE comes ahead of FULL", days + "hour(1)=0 drift(0)=OUTSIDE drift(61)=OUTSIDE");
        edge("DAYS are above 9000: undone, they are not", days + "drift(1)=0 undo(1)=9000 drift(1)=0");
    }

    // ---- UNDONE

    private static void undo() {
        edge("The n latest (1 .. 30): the least", COAST + "hour(3) undo(1)=1 told(7)=0 told(15)=2");
        edge("The n latest (1 .. 30): the greatest", COAST + "hour(30) undo(30)=0 told(7)=0 told(15)=0");
        edge("The n latest (1 .. 30): one below", COAST + "hour(40) undo(0)=OUTSIDE undo(-1)=OUTSIDE undo(MIN)=OUTSIDE");
        edge("The n latest (1 .. 30): one above", COAST + "hour(40) undo(31)=OUTSIDE undo(MAX)=OUTSIDE");
        edge("NOT: not so many: none", COAST + "undo(1)=NOT undo(30)=NOT");
        edge("NOT: not so many: one too few", COAST + "hour(3) undo(4)=NOT undo(30)=NOT undo(3)=0 undo(1)=NOT");
        edge("NOT: not so many: 29", COAST + "hour(29) undo(30)=NOT undo(29)=0");
        edge("NOT: not so many: OUTSIDE comes ahead of it", COAST + "undo(31)=OUTSIDE undo(0)=OUTSIDE");
        edge("NOT: no COAST", "undo(1)=NOT undo(31)=OUTSIDE");
        edge("30 at most are kept: the 30th", COAST + "29xmesh(0,1) mesh(0,2)=1 told(15)=30 undo(30)=0 post(0,1)=4");
        edge("30 at most are kept: at the 31st the first gives way", COAST + "mesh(0,7)=4 29xmesh(0,1) mesh(0,2)=1 told(15)=30 undo(30)=0 "
            + "post(0,1)=7 undo(1)=NOT told(15)=0");
        edge("30 at most are kept: at the 32nd the second gives way", COAST + "mesh(0,7)=4 mesh(0,8)=7 30xmesh(0,1) told(15)=30 "
            + "undo(30)=0 post(0,1)=8 undo(1)=NOT");
        edge("30 at most are kept: of 60 the latest", "coast<f1 0;> hour(60) told(15)=30 undo(30)=30 undo(1)=NOT");
        edge("30 at most are kept: of 300 the latest", "coast<f1 0;> 5xhour(60) undo(29)=271 undo(1)=270 undo(1)=NOT");
        edge("what was undone gives room", COAST + "30xmesh(0,1) undo(10)=0 told(15)=20 10xmesh(0,2) told(15)=30 undo(30)=0 post(0,1)=4");
        edge("one by one, or at once", "coast<f1 0;> hour(45) 29xundo(1) told(6)=16 undo(1)=15 hour(30) undo(30)=15");
        Script.alike("one by one, or at once", COAST + "hour(9) 4xundo(1)", COAST + "hour(9) undo(4)");
        Script.alike("undone and done again", COAST + "hour(40) undo(12) hour(12)", COAST + "hour(40) undo(12) 12xhour(1)");
    }

    private static void undoEachDeed() {
        String setup = COAST + "hour(5) lick(1,1) got(0,0,3) write(0,3) ";
        String[] deeds = {"hour(1)", "carry(0)", "carry(1)", "lick(0,3)", "mesh(1,9)", "move(1,0)", "lamp(true)", "drift(1)"};
        for (String deed : deeds) {
            edge("the latest deeds: one is " + deed, setup + "told(15)=6 " + deed + " told(15)=7");
            Script.alike("all of section 2 is as ahead of them: " + deed, setup + deed + " undo(1) seed(8)", setup + "seed(8)");
            Script.alike("all of section 2 is as ahead of them: behind " + deed, setup + deed + " hour(3) undo(4) seed(8)", setup + "seed(8)");
        }
        edge("each HOUR", setup + "hour(4) told(15)=10");
        edge("each HOUR BY DRAWS, with its lick", setup + "drift(20) told(15)=26 undo(20)=2 told(7)=1 told(15)=6");
        edge("a deed that changes nothing is one", COAST + "lamp(false)=0 mesh(0,4)=4 lick(0,1)=0 carry(0)=0 told(15)=4");
        edge("THE SEED stays", COAST + "seed(7)=0 drift(1) undo(1)=0 seed(0)=" + seedBehindADriftOfTwoPosts(7));
        edge("THE SEED stays: what came behind it too", COAST + "drift(1) seed(7) undo(1)=0 seed(0)=7");
        Script.alike("all that was counted, too", "coast<f1 0;h0 40;p0 9 9 0;u4 3;g0 5;> hour(3) carry(0) hour(9) undo(9)",
            "coast<f1 0;h0 40;p0 9 9 0;u4 3;g0 5;> hour(3) carry(0)");
    }

    private static long seedBehindADriftOfTwoPosts(int start) {
        Draws d = new Draws(start);
        d.draw(41);
        d.draw(2);
        if (d.draw(8) == 0) {
            d.draw(2);
            d.draw(10);
        }
        return d.seed;
    }

    private static void whatIsNoDeed() {
        String[] calls = {"feed(102)", "got(0,0,3)", "write(0,3)", "tear()", "seed(5)", "gets(0,9)", "bestTwo(0,1,0)", "thirsty(0)"};
        for (String call : calls) edge("the latest deeds: none is " + call, COAST + "hour(2) " + call + " told(15)=2 undo(2)=0");
        edge("GOT stays", COAST + "hour(2) got(0,0,3)=1 undo(2)=0 told(13)=1");
        edge("THE BOOK stays", COAST + "hour(2) write(0,3)=1 undo(2)=0 told(14)=1");
        edge("since the text", COAST + "hour(2) " + COAST + "told(15)=0 undo(1)=NOT");
        edge("since the text: one with a fault is none", COAST + "hour(2) coast<x> told(15)=2 undo(2)=0");
        edge("since the IMAGE: kept", COAST + "hour(2) keep(0)=1 told(15)=0 undo(1)=NOT hour(1) undo(2)=NOT undo(1)=1");
        edge("since the IMAGE: gone back to", COAST + "keep(0)=1 hour(2) goBack(0)=1 told(15)=0 undo(1)=NOT");
        edge("since the IMAGE: a refused one is none", COAST + "hour(2) keep(2)=UNKNOWN goBack(0)=NOT goBack(2)=UNKNOWN undo(2)=0");
    }

    // ---- IMAGES

    private static void images() {
        edge("IMAGES 0, 1: the least", COAST + "keep(0)=1 goBack(0)=1");
        edge("IMAGES 0, 1: the greatest", COAST + "keep(1)=1 goBack(1)=1");
        edge("IMAGES 0, 1: one below", COAST + "hour(1) keep(-1)=UNKNOWN goBack(-1)=UNKNOWN keep(MIN)=UNKNOWN goBack(MIN)=UNKNOWN");
        edge("IMAGES 0, 1: one above", COAST + "hour(1) keep(2)=UNKNOWN goBack(2)=UNKNOWN keep(MAX)=UNKNOWN goBack(MAX)=UNKNOWN");
        edge("NOT: it was not kept: none was", COAST + "hour(1) goBack(0)=NOT goBack(1)=NOT");
        edge("NOT: it was not kept: the other was", COAST + "keep(0)=1 hour(1) goBack(1)=NOT");
        edge("NOT: it was not kept: the other was", COAST + "keep(1)=1 hour(1) goBack(0)=NOT");
        edge("NOT: it was not kept: UNKNOWN comes ahead of it", "goBack(2)=UNKNOWN goBack(-1)=UNKNOWN");
        edge("NOT: it was not kept: with a new text", COAST + "keep(0) keep(1) " + COAST + "goBack(0)=NOT goBack(1)=NOT");
        edge("NOT: it was not kept: with an empty text", COAST + "keep(0) keep(1) coast()=0 goBack(0)=NOT goBack(1)=NOT");
        edge("kept with a text that has a fault", COAST + "keep(0) keep(1) coast<x>=-11 goBack(0)=1 goBack(1)=1");
        edge("kept without a COAST", "goBack(0)=NOT keep(0)=1 goBack(0)=1 seed(4)=0 goBack(0)=1 seed(5)=0");
        edge("kept for more than once", COAST + "keep(0)=1 hour(3) goBack(0)=1 told(7)=0 hour(3) goBack(0)=1 told(7)=0");
    }

    private static void whatAnImageKeeps() {
        String setup = COAST + "seed(6) hour(5) carry(0) lamp(true) mesh(1,7) move(0,0) hour(4) got(0,1,3) write(1,3) ";
        String other = "seed(8) lamp(false) mesh(0,1) move(1,4) hour(3) carry(1) drift(9) ";
        Script.alike("IMAGES keep all of section 2, THE SEED: 0", setup + "keep(0) " + other + "goBack(0)", setup + "keep(0)");
        Script.alike("IMAGES keep all of section 2, THE SEED: 1", setup + "keep(1) " + other + "goBack(1)", setup + "keep(1)");
        Script.alike("each IMAGE its own", setup + "keep(0) " + other + "keep(1) hour(9) goBack(0)", setup + "keep(0) " + other
            + "keep(1) goBack(0)");
        Script.alike("IMAGE i becomes what is so: the older one is gone", setup + "keep(0) " + other + "keep(0) hour(9) goBack(0)",
            setup + "keep(0) " + other + "keep(0)");
        edge("THE SEED of each", COAST + "seed(6) keep(0) seed(2147483647) keep(1) seed(0) goBack(0) seed(3)=6 goBack(1) seed(3)=2147483647");
        edge("what was GOT is no part of it", COAST + "got(0,0,3) keep(0) got(0,0,4) goBack(0)=1 told(13)=2 tear()=2 goBack(0)=1 told(13)=0");
        edge("THE BOOK is no part of it", COAST + "write(0,3) keep(0) write(0,4) goBack(0)=1 told(14)=2 tear()=2 goBack(0)=1 told(14)=0");
        edge("THE TEXT is no part of it", COAST + "feed(102) keep(0) feed(49) goBack(0)=1 told(5)=2");
        edge("nothing can be undone then", COAST + "hour(9) keep(0)=1 told(15)=0 undo(1)=NOT hour(9) goBack(0)=1 told(15)=0 undo(1)=NOT");
        edge("what comes then can be", COAST + "hour(9) keep(0)=1 30xmesh(0,1) told(15)=30 undo(30)=4 post(0,1)=4");
    }
}
