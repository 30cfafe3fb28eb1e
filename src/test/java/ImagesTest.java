/** Promises 41 to 43: the seed and the images. */
public final class ImagesTest {
    private static final String COAST = CoastTest.COAST;

    public static void main(String[] args) {
        seed();
        keepAndGoBack();
        bareImages();
        Check.end();
    }

    private static void seed() {
        FogNets x = new FogNets();
        Check.due("seed(2147483647)", x.seed(2147483647), 0);
        Check.due("seed(-1)", x.seed(-1), Check.OUTSIDE);
        Check.due("seed(MIN)", x.seed(Integer.MIN_VALUE), Check.OUTSIDE);
        Check.due("seed(0)", x.seed(0), 2147483647);
        Check.due("seed(7)", x.seed(7), 0);
    }

    private static void keepAndGoBack() {
        FogNets x = Check.coast(COAST);
        Check.due("goBack(0) of nothing", x.goBack(0), Check.NOT);
        Check.due("goBack(2)", x.goBack(2), Check.UNKNOWN);
        Check.due("goBack(-1)", x.goBack(-1), Check.UNKNOWN);
        Check.due("keep(2)", x.keep(2), Check.UNKNOWN);
        Check.due("keep(-1)", x.keep(-1), Check.UNKNOWN);
        x.seed(11);
        x.hour(4);
        x.lamp(true);
        x.mesh(0, 8);
        x.move(1, 4);
        x.carry(0);
        x.hour(1);
        Check.due("told(15)", x.told(15), 9);
        Check.due("keep(2)", x.keep(2), Check.UNKNOWN);
        Check.due("told(15)", x.told(15), 9);
        Check.due("keep(1)", x.keep(1), 1);
        Check.due("told(15)", x.told(15), 0);
        Check.due("undo(1)", x.undo(1), Check.NOT);
        String first = Seen.all(x);
        Check.due("goBack(0)", x.goBack(0), Check.NOT);
        x.seed(12);
        x.lamp(false);
        x.mesh(0, 1);
        x.move(0, 3);
        x.carry(1);
        x.drift(20);
        x.seed(13);
        Check.due("keep(0)", x.keep(0), 1);
        String second = Seen.all(x);
        x.hour(2);
        Check.due("goBack(1)", x.goBack(1), 1);
        Check.due("the first", Seen.all(x).equals(first) ? 1 : 0, 1);
        Check.due("its seed", x.seed(99), 11);
        Check.due("undo(1)", x.undo(1), Check.NOT);
        x.hour(7);
        Check.due("goBack(0)", x.goBack(0), 1);
        Check.due("the second", Seen.all(x).equals(second) ? 1 : 0, 1);
        Check.due("its seed", x.seed(99), 13);
        x.hour(9);
        Check.due("goBack(1)", x.goBack(1), 1);
        Check.due("the first again", Seen.all(x).equals(first) ? 1 : 0, 1);
        // What was got and written is no part of an image.
        x.got(0, 0, 4);
        x.write(0, 4);
        x.write(0, 5);
        Check.due("goBack(0)", x.goBack(0), 1);
        Check.due("told(13)", x.told(13), 1);
        Check.due("told(14)", x.told(14), 2);
        // An image is overwritten by the next one.
        x.seed(5);
        Check.due("keep(1)", x.keep(1), 1);
        x.seed(6);
        Check.due("goBack(1)", x.goBack(1), 1);
        Check.due("its seed", x.seed(0), 5);
        // Images outlive undoing and a text with a fault.
        x.hour(3);
        x.undo(3);
        x.feed('x');
        x.coast();
        Check.due("goBack(1)", x.goBack(1), 1);
    }

    private static void bareImages() {
        FogNets x = new FogNets();
        Check.due("bare goBack(1)", x.goBack(1), Check.NOT);
        x.seed(4);
        Check.due("bare keep(1)", x.keep(1), 1);
        x.seed(5);
        Check.due("bare goBack(1)", x.goBack(1), 1);
        Check.due("its seed", x.seed(6), 4);
        Check.feed(x, COAST);
        x.coast();
        Check.due("goBack(1) behind a text", x.goBack(1), Check.NOT);
        Check.due("seed stays", x.seed(0), 6);
    }
}
