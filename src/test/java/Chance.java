import java.math.BigInteger;

/** The document's draws, and seeds that draw what a case wants. */
final class Chance {
    private static final BigInteger FACTOR = new BigInteger("6364136223846793005");
    private static final BigInteger STEP = new BigInteger("1442695040888963407");
    private static final BigInteger WRAP = BigInteger.ONE.shiftLeft(64);
    private static final int MOST_SEEDS = 2_000_000;

    private BigInteger state;

    private Chance(long seed) {
        state = BigInteger.valueOf(seed).mod(WRAP);
    }

    private int draw(int choices) {
        state = state.multiply(FACTOR).add(STEP).mod(WRAP);
        return state.shiftRight(33).mod(BigInteger.valueOf(choices)).intValue();
    }

    static int[] draws(long seed, int... choices) {
        Chance chance = new Chance(seed);
        int[] drawn = new int[choices.length];
        for (int i = 0; i < choices.length; i++) {
            drawn[i] = chance.draw(choices[i]);
        }
        return drawn;
    }

    /**
     * The least seed that draws these tries: "3: 0 1 2" is a try with 3 blocks that draws what 0,
     * p 1 and q 2; a star stands for any number.
     */
    static long seedFor(String... tries) {
        for (long seed = 0; seed < MOST_SEEDS; seed++) {
            if (draws(seed, tries)) {
                return seed;
            }
        }
        throw new IllegalArgumentException("no such seed");
    }

    private static boolean draws(long seed, String[] tries) {
        Chance chance = new Chance(seed);
        for (String wanted : tries) {
            String[] parts = wanted.split(":? ");
            int blocks = Integer.parseInt(parts[0]);
            for (int i = 1; i < parts.length; i++) {
                int drawn = chance.draw(i == 1 ? 3 : blocks);
                if (!parts[i].equals("*") && drawn != Integer.parseInt(parts[i])) {
                    return false;
                }
            }
        }
        return true;
    }
}
