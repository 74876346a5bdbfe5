import java.math.BigInteger;

/** The draws of YEARS by a seed, as the document tells them, in numbers that have no bounds of their own. */
final class Draws {
    private static final BigInteger ROUND = BigInteger.ONE.shiftLeft(64);
    private static final BigInteger TIMES = new BigInteger("6364136223846793005");
    private static final BigInteger PLUS = new BigInteger("1442695040888963407");

    private BigInteger x;

    Draws(long seed) {
        x = BigInteger.valueOf(seed).mod(ROUND);
    }

    int of(int k) {
        x = x.multiply(TIMES).add(PLUS).mod(ROUND);
        return x.shiftRight(33).mod(BigInteger.valueOf(k)).intValue();
    }

    /** Whether the latest draw was from an x that has no sign as 64 bits. */
    boolean wasHigh() {
        return x.testBit(63);
    }
}
