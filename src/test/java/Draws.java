import java.math.BigInteger;

/** The document's draws over whole numbers of any size, so that nothing goes round or has a sign by itself. */
final class Draws {
    private static final BigInteger TIMES = new BigInteger("6364136223846793005");
    private static final BigInteger MORE = new BigInteger("1442695040888963407");
    private static final BigInteger ROUND = BigInteger.ONE.shiftLeft(64);

    private BigInteger x;

    Draws(long seed) {
        x = BigInteger.valueOf(seed).mod(ROUND);
    }

    int draw(int m) {
        x = x.multiply(TIMES).add(MORE).mod(ROUND);
        return x.shiftRight(33).mod(BigInteger.valueOf(m)).intValue();
    }

    /** A seed whose draws of these are just these. */
    static long seedFor(int[] of, int[] drawn) {
        for (long seed = 0; seed < 1000000; seed++) {
            Draws draws = new Draws(seed);
            int right = 0;
            while (right < of.length && draws.draw(of[right]) == drawn[right]) {
                right++;
            }
            if (right == of.length) {
                return seed;
            }
        }
        throw new IllegalStateException("no such seed");
    }
}
