/** Objects that many cases begin with. */
final class Floors {
    static final int MOST_BLOCKS = 16;
    static final int MOST_NETS = 40;
    static final int MOST_NETS_OF_A_BLOCK = 8;
    /** 16 blocks and the 15 slices that take them all in. */
    static final int MOST_THINGS_THERE_CAN_BE = 31;

    private static final long ANY_SEED = 9L;

    private Floors() {
    }

    /** Blocks that do not turn, each by its width and height. */
    static SliceBlocks stiffBy(long seed, long... sides) {
        return withBlocks(seed, false, sides);
    }

    static SliceBlocks stiff(long... sides) {
        return withBlocks(ANY_SEED, false, sides);
    }

    /** Blocks that may be turned, each by its width and height. */
    static SliceBlocks turningBy(long seed, long... sides) {
        return withBlocks(seed, true, sides);
    }

    private static SliceBlocks withBlocks(long seed, boolean turns, long... sides) {
        SliceBlocks x = new SliceBlocks(seed);
        for (int i = 0; i < sides.length; i += 2) {
            x.block(sides[i], sides[i + 1], turns);
        }
        return x;
    }

    /** Blocks of one size in a row. */
    static SliceBlocks row(int count, long width, long height) {
        SliceBlocks x = new SliceBlocks(ANY_SEED);
        for (int i = 0; i < count; i++) {
            x.block(width, height, false);
        }
        return x;
    }

    /** Block 0 (1 x 4) on the ground, block 1 (1 x 3) upon it: the one try of seedOfPile. */
    static SliceBlocks pile() {
        SliceBlocks x = stiffBy(seedOfPile(), 1, 4, 1, 3);
        x.pair(1);
        return x;
    }

    /** A seed whose first try, with two blocks, puts block 0 below block 1. */
    static long seedOfPile(String... laterTries) {
        return Chance.seedFor(behind("2: 0 0 1", laterTries));
    }

    /** Block 0 (1 x 9) turned to 9 x 1, and block 1 (9 x 1, stiff) right of it. */
    static SliceBlocks turnedFirst(String... laterTries) {
        SliceBlocks x = new SliceBlocks(Chance.seedFor(behind("2: 2 0 *", laterTries)));
        x.block(1, 9, true);
        x.block(9, 1, false);
        x.pair(1);
        return x;
    }

    private static String[] behind(String first, String[] later) {
        String[] all = new String[later.length + 1];
        all[0] = first;
        System.arraycopy(later, 0, all, 1, later.length);
        return all;
    }

    /** 16 blocks that may be turned, no two alike. */
    static SliceBlocks full() {
        SliceBlocks x = new SliceBlocks(ANY_SEED);
        for (int i = 0; i < MOST_BLOCKS; i++) {
            x.block(1 + i, 1000 - i, true);
        }
        return x;
    }

    /** Each thing that is in no slice, from 0 on, joined with those before: the last number. */
    static int sliceAll(SliceBlocks x, int blocks, boolean across) {
        int all = 0;
        for (int block = 1; block < blocks; block++) {
            all = x.slice(all, block, across);
        }
        return all;
    }

    /** 40 nets between 16 blocks, no block with 8. */
    static void addAllNets(SliceBlocks x) {
        int made = 0;
        for (int step = 1; made < MOST_NETS; step++) {
            for (int i = 0; i < MOST_BLOCKS && made < MOST_NETS; i++) {
                x.net(i, (i + step) % MOST_BLOCKS);
                made++;
            }
        }
    }

    /** So many nets between blocks 0 and 1, by turns from either end. */
    static void addNets(SliceBlocks x, int count) {
        for (int i = 0; i < count; i++) {
            x.net(i % 2, 1 - i % 2);
        }
    }

    static SliceBlocks fullOfAll() {
        SliceBlocks x = full();
        sliceAll(x, MOST_BLOCKS, true);
        addAllNets(x);
        return x;
    }

    /** "x,y" of a block. */
    static String place(SliceBlocks x, int block) {
        return x.at(block, 0) + "," + x.at(block, 1);
    }

    /** All shapes of a thing, "wxh" each. */
    static String shapesOf(SliceBlocks x, int node) {
        StringBuilder all = new StringBuilder();
        for (int k = 0; k < x.shapes(node); k++) {
            all.append(k == 0 ? "" : " ").append(x.shape(node, k, 0)).append('x').append(x.shape(node, k, 1));
        }
        return all.toString();
    }

    /** The nets with pins at a block: left | right | below | above. */
    static String pinsOf(SliceBlocks x, int block) {
        StringBuilder all = new StringBuilder();
        for (int side = 0; side < 4; side++) {
            all.append(side == 0 ? "" : "|");
            for (int k = 0; k < 2; k++) {
                int net = x.pin(block, side, k);
                all.append(net == SliceBlocks.NONE ? "" : k == 0 ? net : "," + net);
            }
        }
        return all.toString();
    }
}
