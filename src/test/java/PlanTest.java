import java.math.BigInteger;

/** Promises 3, 9, 10, 11, 12 and 15: fixed blocks, tries, places, turns, overlap and outline. */
public final class PlanTest {
    private static final Checks CHECKS = new Checks("PlanTest");
    private static final BigInteger FACTOR = new BigInteger("6364136223846793005");
    private static final BigInteger STEP = new BigInteger("1442695040888963407");

    public static void main(String[] args) {
        newBlocksInARow();
        fixed();
        fixRefused();
        fixedElsewhere();
        fixErrors();
        placeErrors();
        triesErrors();
        oneTry();
        exchangeInBothOrders();
        turnedBlock();
        fixedOrStiffStaysUnturned();
        nothingDrawnForNothing();
        drawsGoOn();
        sameAreaLessWire();
        outlineEdges();
        greatestArea();
        CHECKS.end();
    }

    private static void newBlocksInARow() {
        SliceBlocks x = new SliceBlocks(3);
        x.block(5, 2, true);
        x.block(3, 9, false);
        x.block(1, 4, true);
        duePlace(x, 0, 0, 0);
        duePlace(x, 1, 5, 0);
        duePlace(x, 2, 8, 0);
        CHECKS.due("area of a row", 81, () -> x.pair(0));
        CHECKS.due("not turned", false, () -> x.turned(0));
        CHECKS.due("no overlap", false, () -> x.overlap());
    }

    private static void fixed() {
        SliceBlocks x = new SliceBlocks(3);
        x.block(5, 2, true);
        x.block(3, 9, false);
        x.block(1, 4, true);
        CHECKS.due("fix(1, 7, 6)", true, () -> x.fix(1, 7, 6));
        duePlace(x, 0, 0, 0);
        duePlace(x, 1, 7, 6);
        duePlace(x, 2, 10, 0);
        CHECKS.due("area with a fixed one", 11 * 15, () -> x.pair(0));
        CHECKS.due("a new block is right of all", 3, () -> x.block(2, 2, false));
        duePlace(x, 3, 11, 0);
        CHECKS.due("fixed exactly where it is", true, () -> x.fix(3, 11, 0));
        CHECKS.due("no overlap", false, () -> x.overlap());
        x.pair(500);
        duePlace(x, 1, 7, 6);
        duePlace(x, 3, 11, 0);
        CHECKS.due("no overlap after tries", false, () -> x.overlap());
    }

    private static void fixRefused() {
        SliceBlocks x = new SliceBlocks(3);
        x.block(5, 2, true);
        x.block(3, 9, false);
        x.block(1, 4, true);
        CHECKS.due("fix one too far left", false, () -> x.fix(1, 4, 0));
        duePlace(x, 1, 5, 0);
        duePlace(x, 2, 8, 0);
        CHECKS.due("fix the last one", true, () -> x.fix(2, 8, 1));
        CHECKS.due("fix the first one into the last one's way", false, () -> x.fix(0, 1, 0));
        duePlace(x, 0, 0, 0);
        duePlace(x, 1, 5, 0);
        duePlace(x, 2, 8, 1);
        CHECKS.due("the refused one is not fixed: it still moves", true, () -> x.fix(0, 0, 3));
        duePlace(x, 0, 0, 3);
        CHECKS.due("outline", true, () -> x.outline(9, 9));
        CHECKS.due("area", 81, () -> x.pair(0));
    }

    private static void fixedElsewhere() {
        SliceBlocks x = new SliceBlocks(3);
        x.block(5, 2, true);
        x.block(3, 9, false);
        CHECKS.due("fixed", true, () -> x.fix(1, 20000, 20000));
        duePlace(x, 1, 20000, 20000);
        CHECKS.due("elsewhere, refused", false, () -> x.fix(1, 4, 7));
        duePlace(x, 1, 20000, 20000);
        CHECKS.due("elsewhere", true, () -> x.fix(1, 5, 7));
        duePlace(x, 1, 5, 7);
        CHECKS.due("area", 8 * 16, () -> x.pair(0));
    }

    private static void fixErrors() {
        SliceBlocks x = new SliceBlocks(3);
        x.block(5, 2, true);
        x.block(3, 9, false);
        x.slice(0, 1, true);
        for (int wrong : new int[] {-1, 2, 3, 40, Integer.MIN_VALUE, Integer.MAX_VALUE}) {
            CHECKS.noIndex("fix " + wrong, () -> x.fix(wrong, 0, 0));
            CHECKS.noIndex("fix " + wrong + " at no place", () -> x.fix(wrong, -1, 20001));
        }
        for (long wrong : new long[] {-1, 20001, 1L << 32, Long.MIN_VALUE, Long.MAX_VALUE}) {
            CHECKS.noArgument("fix at x " + wrong, () -> x.fix(0, wrong, 0));
            CHECKS.noArgument("fix at y " + wrong, () -> x.fix(0, 0, wrong));
        }
        duePlace(x, 0, 0, 0);
        CHECKS.due("at the farthest", true, () -> x.fix(0, 20000, 20000));
        duePlace(x, 1, 20005, 0);
    }

    private static void placeErrors() {
        SliceBlocks x = new SliceBlocks(3);
        x.block(5, 2, true);
        x.block(3, 9, false);
        x.slice(0, 1, true);
        for (int wrong : new int[] {-1, 2, 3, 40, Integer.MIN_VALUE, Integer.MAX_VALUE}) {
            CHECKS.noIndex("at(" + wrong + ", 0)", () -> x.at(wrong, 0));
            CHECKS.noIndex("at(0, " + wrong + ")", () -> x.at(0, wrong));
            CHECKS.noIndex("turned(" + wrong + ")", () -> x.turned(wrong));
        }
    }

    private static void triesErrors() {
        SliceBlocks x = new SliceBlocks(3);
        for (int k = 0; k < 2; k++) {
            for (int wrong : new int[] {-1, 2001, Integer.MIN_VALUE, Integer.MAX_VALUE}) {
                CHECKS.noArgument("pair(" + wrong + ")", () -> x.pair(wrong));
            }
            x.block(5, 2, true);
        }
        CHECKS.due("pair(0)", 20, () -> x.pair(0));
        CHECKS.due("pair(2000)", 20, () -> x.pair(2000));
    }

    /** Two blocks that are better one above the other: one try stands them so if it draws that. */
    private static void oneTry() {
        for (long seed = -40; seed < 40; seed++) {
            SliceBlocks x = new SliceBlocks(seed);
            x.block(1, 4, false);
            x.block(1, 3, false);
            int[] drawn = draws(seed, 3, 2, 2);
            boolean stands = drawn[0] == 0 && drawn[1] != drawn[2];
            CHECKS.due("area after one try of seed " + seed, stands ? 7 : 8, () -> x.pair(1));
            duePlace(x, 0, 0, 0);
            // The first one is behind in the first order then, and before in the second: below.
            duePlace(x, 1, stands ? 0 : 1, stands ? 4 : 0);
        }
    }

    /**
     * With the middle one fixed on the ground, a pile is no plan or greater: only blocks exchanged
     * in both orders make the plan less, the last two always, the outer two if the last is wider.
     */
    private static void exchangeInBothOrders() {
        for (long seed = 0; seed < 60; seed++) {
            int[] drawn = draws(seed, 3, 3, 3);
            boolean exchanged = drawn[0] == 1 && drawn[1] != drawn[2];
            boolean lastTwo = exchanged && drawn[1] + drawn[2] == 3;
            boolean outerTwo = exchanged && drawn[1] + drawn[2] == 2;
            SliceBlocks x = threeInARow(seed, 2, 1);
            CHECKS.due("area of seed " + seed, lastTwo ? 7 : 8, () -> x.pair(1));
            duePlace(x, 0, 0, 0);
            duePlace(x, 1, 4, 0);
            duePlace(x, 2, lastTwo ? 2 : 7, 0);
            SliceBlocks y = threeInARow(seed, 1, 2);
            CHECKS.due("area of seed " + seed + ", the other way", lastTwo ? 7 : outerTwo ? 8 : 9, () -> y.pair(1));
            duePlace(y, 0, outerTwo ? 7 : 0, 0);
            duePlace(y, 1, 4, 0);
            duePlace(y, 2, lastTwo ? 1 : outerTwo ? 0 : 7, 0);
        }
    }

    private static SliceBlocks threeInARow(long seed, long firstWidth, long lastWidth) {
        SliceBlocks x = new SliceBlocks(seed);
        x.block(firstWidth, 1, false);
        x.block(3, 1, false);
        x.block(lastWidth, 1, false);
        x.fix(1, 4, 0);
        return x;
    }

    private static void turnedBlock() {
        for (long seed = 0; seed < 40; seed++) {
            SliceBlocks x = new SliceBlocks(seed);
            x.block(1, 9, true);
            x.block(9, 1, false);
            int[] drawn = draws(seed, 3, 2, 2);
            // A row is 10 x 9, a pile 9 x 10; the first one turned makes a row of 18 x 1.
            boolean turns = drawn[0] == 2 && drawn[1] == 0;
            CHECKS.due("area of seed " + seed, turns ? 18 : 90, () -> x.pair(1));
            CHECKS.due("turned of seed " + seed, turns, () -> x.turned(0));
            CHECKS.due("the other one of seed " + seed, false, () -> x.turned(1));
            duePlace(x, 1, turns ? 9 : 1, 0);
            CHECKS.due("shapes stay", 1, () -> x.shape(0, 0, 0));
        }
    }

    private static void fixedOrStiffStaysUnturned() {
        for (long seed = 0; seed < 20; seed++) {
            SliceBlocks x = new SliceBlocks(seed);
            x.block(1, 9, true);
            x.block(9, 1, false);
            x.block(9, 2, true);
            x.fix(0, 0, 0);
            x.pair(200);
            CHECKS.due("fixed", false, () -> x.turned(0));
            CHECKS.due("stiff", false, () -> x.turned(1));
        }
    }

    /** Tries without blocks leave the state as it is; with blocks, each try draws three numbers. */
    private static void nothingDrawnForNothing() {
        SliceBlocks x = new SliceBlocks(77);
        SliceBlocks y = new SliceBlocks(77);
        x.pair(2000);
        x.pair(1);
        fill(x);
        fill(y);
        x.pair(0);
        CHECKS.due("tries after tries of nothing", y.pair(20), () -> x.pair(20));
        for (int block = 0; block < 6; block++) {
            duePlace(x, block, y.at(block, 0), y.at(block, 1));
        }
    }

    private static void drawsGoOn() {
        for (long seed = 0; seed < 20; seed++) {
            SliceBlocks x = new SliceBlocks(seed);
            x.block(1, 1, true);
            x.pair(5);
            x.block(1, 4, false);
            int[] drawn = draws(seed, 3, 1, 1, 3, 1, 1, 3, 1, 1, 3, 1, 1, 3, 1, 1, 3, 2, 2);
            // A row is 2 x 4, a pile 1 x 5.
            boolean stands = drawn[15] == 0 && drawn[16] != drawn[17];
            CHECKS.due("the try behind five of seed " + seed, stands ? 5 : 8, () -> x.pair(1));
        }
    }

    /** Blocks of one size: no plan in a row is less, but the wire can be. */
    private static void sameAreaLessWire() {
        SliceBlocks x = new SliceBlocks(5);
        for (int i = 0; i < 4; i++) {
            x.block(10, 10, false);
        }
        x.net(0, 3);
        CHECKS.due("wire of the row", 60, () -> x.wire());
        CHECKS.due("area stays", 400, () -> x.pair(2000));
        CHECKS.due("wire is the least", 20, () -> x.wire());
    }

    private static void outlineEdges() {
        SliceBlocks x = new SliceBlocks(3);
        CHECKS.due("nothing lies within 1 x 1", true, () -> x.outline(1, 1));
        CHECKS.noArgument("outline(0, 1) of nothing", () -> x.outline(0, 1));
        x.block(5, 2, true);
        x.block(3, 9, false);
        CHECKS.due("exact", true, () -> x.outline(8, 9));
        CHECKS.due("wide enough, not high enough", false, () -> x.outline(100, 8));
        CHECKS.due("high enough, not wide enough", false, () -> x.outline(7, 100));
        CHECKS.due("not turned", false, () -> x.outline(9, 8));
        CHECKS.due("huge", true, () -> x.outline(Long.MAX_VALUE, Long.MAX_VALUE));
        for (long wrong : new long[] {0, -1, Long.MIN_VALUE}) {
            CHECKS.noArgument("outline(" + wrong + ", 9)", () -> x.outline(wrong, 9));
            CHECKS.noArgument("outline(9, " + wrong + ")", () -> x.outline(9, wrong));
        }
        CHECKS.due("wider than an int", true, () -> x.outline(1L << 32, 1L << 32));
    }

    private static void greatestArea() {
        SliceBlocks x = new SliceBlocks(3);
        for (int i = 0; i < 16; i++) {
            x.block(1000, 1000, true);
        }
        x.fix(0, 20000, 20000);
        CHECKS.due("farthest area", 36000 * 21000, () -> x.pair(0));
        CHECKS.due("outline", true, () -> x.outline(36000, 21000));
        CHECKS.due("outline, one less", false, () -> x.outline(35999, 21000));
        CHECKS.due("last block", 35000, () -> x.at(15, 0));
    }

    private static void fill(SliceBlocks x) {
        for (int i = 0; i < 6; i++) {
            x.block(3 + 2 * i, 14 - 2 * i, i % 2 == 0);
        }
        x.net(0, 5);
        x.net(1, 4);
    }

    private static void duePlace(SliceBlocks x, int block, long atX, long atY) {
        CHECKS.due("X of " + block, atX, () -> x.at(block, 0));
        CHECKS.due("Y of " + block, atY, () -> x.at(block, 1));
    }

    private static int[] draws(long seed, int... choices) {
        BigInteger wrap = BigInteger.ONE.shiftLeft(64);
        BigInteger state = BigInteger.valueOf(seed).mod(wrap);
        int[] drawn = new int[choices.length];
        for (int i = 0; i < choices.length; i++) {
            state = state.multiply(FACTOR).add(STEP).mod(wrap);
            drawn[i] = state.shiftRight(33).mod(BigInteger.valueOf(choices[i])).intValue();
        }
        return drawn;
    }
}
