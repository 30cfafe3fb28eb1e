/** All that can be seen of an object without changing it, in one text. */
final class Seen {
    /** How many calls all() makes. */
    static final int CALLS = 16 + 1 + 6 * 5 + 2 * 5 + 4 * 2 + 13 * 2 + 1 + 3 + 2;

    private Seen() {
    }

    static String all(FogNets x) {
        StringBuilder all = new StringBuilder();
        for (int what = 0; what <= 15; what++) all.append("told").append(what).append('=').append(x.told(what)).append(' ');
        all.append("fault=").append(x.fault());
        for (int p = 0; p < 6; p++) {
            for (int what = 0; what < 5; what++) all.append(' ').append(x.post(p, what));
        }
        for (int v = 0; v < 2; v++) {
            for (int what = 0; what < 5; what++) all.append(' ').append(x.village(v, what));
        }
        for (int g = 0; g < 4; g++) all.append(' ').append(x.goat(g, 0)).append(' ').append(x.goat(g, 1));
        for (int h = -1; h < 12; h++) all.append(' ').append(x.fog(h, 0)).append(' ').append(x.fog(h, 1));
        all.append(" judge ").append(x.judge()).append(" thick");
        for (int what = 0; what < 3; what++) all.append(' ').append(x.thick(what));
        all.append(" lookAt ").append(x.lookAt(0)).append(' ').append(x.lookAt(1));
        return all.toString();
    }
}
