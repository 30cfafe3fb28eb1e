import java.math.BigInteger;

/** THE SEED and its DRAWS, as the document tells them, apart from all else. */
final class Draws {
    private static final BigInteger TIMES = BigInteger.valueOf(1103515245), AND = BigInteger.valueOf(12345),
        LEFT_OVER_BY = BigInteger.TWO.pow(31);

    long seed;

    Draws(long seed) {
        this.seed = seed;
    }

    int draw(int n) {
        seed = BigInteger.valueOf(seed).multiply(TIMES).add(AND).mod(LEFT_OVER_BY).longValue();
        return (int) (seed / 65536 % n);
    }

    /** The first seed of which the DRAWS of these come so; NONE stands for any. */
    static int seedOf(int... drawsAndResults) {
        for (int start = 0; start < 3000000; start++) {
            Draws d = new Draws(start);
            boolean fits = true;
            for (int k = 0; k < drawsAndResults.length && fits; k += 2) {
                int result = d.draw(drawsAndResults[k]);
                fits = drawsAndResults[k + 1] == Check.NONE || drawsAndResults[k + 1] == result;
            }
            if (fits) return start;
        }
        throw new IllegalStateException("no seed draws so");
    }

    /** THE SEED behind so many DRAWS. */
    static long behind(long seed, int draws) {
        Draws d = new Draws(seed);
        for (int k = 0; k < draws; k++) d.draw(1);
        return d.seed;
    }
}
