/** Promises 1, 2, 5, 6, 7 and 8: a new object, blocks, slices and their shapes. */
public final class ThingsTest {
    private static final Checks CHECKS = new Checks("ThingsTest");

    public static void main(String[] args) {
        newObject();
        blockSides();
        blockLimit();
        blockShapes();
        sliceAcross();
        sliceUp();
        sliceDropsAndSorts();
        sameShapesOnce();
        sliceErrors();
        sliceOrderOfErrors();
        shapeErrors();
        longChain();
        greatestTree();
        CHECKS.end();
    }

    private static void newObject() {
        for (long seed : new long[] {0L, 1L, -1L, Long.MIN_VALUE, Long.MAX_VALUE}) {
            SliceBlocks x = new SliceBlocks(seed);
            CHECKS.noIndex("new: shapes(0)", () -> x.shapes(0));
            CHECKS.noIndex("new: least(0)", () -> x.least(0));
            CHECKS.noIndex("new: shape(0, 0, 0)", () -> x.shape(0, 0, 0));
            CHECKS.noIndex("new: at(0, 0)", () -> x.at(0, 0));
            CHECKS.noIndex("new: turned(0)", () -> x.turned(0));
            CHECKS.noIndex("new: pin(0, 0, 0)", () -> x.pin(0, 0, 0));
            CHECKS.noIndex("new: fix(0, 0, 0)", () -> x.fix(0, 0, 0));
            CHECKS.noIndex("new: net(0, 0)", () -> x.net(0, 0));
            CHECKS.noIndex("new: slice(0, 0)", () -> x.slice(0, 0, true));
            CHECKS.due("new: overlap()", false, () -> x.overlap());
            CHECKS.due("new: wire()", 0, () -> x.wire());
            CHECKS.due("new: outline(1, 1)", true, () -> x.outline(1, 1));
            CHECKS.due("new: pair(2000)", 0, () -> x.pair(2000));
            CHECKS.due("new: block", 0, () -> x.block(1, 1, true));
        }
    }

    private static void blockSides() {
        SliceBlocks x = new SliceBlocks(1);
        long[] wrong = {0, -1, 1001, Long.MIN_VALUE, Long.MAX_VALUE, 1L << 32, (1L << 32) + 5};
        for (long side : wrong) {
            CHECKS.noArgument("block(" + side + ", 1)", () -> x.block(side, 1, true));
            CHECKS.noArgument("block(1, " + side + ")", () -> x.block(1, side, false));
        }
        CHECKS.due("first block after wrong ones", 0, () -> x.block(1, 1000, false));
        CHECKS.due("second block", 1, () -> x.block(1000, 1, true));
        CHECKS.due("wrong blocks left nothing", true, () -> x.outline(1001, 1000));
        CHECKS.due("side 1000", 1000, () -> x.shape(0, 0, 1));
    }

    private static void blockLimit() {
        SliceBlocks x = new SliceBlocks(1);
        for (int i = 0; i < 16; i++) {
            int number = i;
            CHECKS.due("block " + i, number, () -> x.block(number + 1, 2, true));
        }
        CHECKS.noState("block 16", () -> x.block(1, 1, true));
        CHECKS.noState("block 16 with a wrong side", () -> x.block(0, 2000, true));
        CHECKS.due("slice behind 16 blocks", 16, () -> x.slice(0, 1, true));
        CHECKS.noState("block 16 behind a slice", () -> x.block(1, 1, true));
        CHECKS.noIndex("at of a slice", () -> x.at(16, 0));
    }

    private static void blockShapes() {
        SliceBlocks x = new SliceBlocks(1);
        x.block(7, 3, true);
        x.block(7, 3, false);
        x.block(4, 4, true);
        x.block(3, 7, true);
        CHECKS.due("shapes of 7 x 3 that turns", 2, () -> x.shapes(0));
        dueShape(x, 0, 0, 3, 7);
        dueShape(x, 0, 1, 7, 3);
        CHECKS.due("shapes of 7 x 3 that does not", 1, () -> x.shapes(1));
        dueShape(x, 1, 0, 7, 3);
        CHECKS.due("shapes of 4 x 4 that turns", 1, () -> x.shapes(2));
        dueShape(x, 2, 0, 4, 4);
        dueShape(x, 3, 0, 3, 7);
        CHECKS.due("least of 7 x 3", 21, () -> x.least(0));
        CHECKS.due("fix leaves shapes", true, () -> x.fix(0, 0, 0));
        CHECKS.due("shapes of a fixed block", 2, () -> x.shapes(0));
    }

    private static void sliceAcross() {
        SliceBlocks x = new SliceBlocks(1);
        x.block(7, 3, false);
        x.block(2, 5, false);
        CHECKS.due("slice across", 2, () -> x.slice(0, 1, true));
        CHECKS.due("its shapes", 1, () -> x.shapes(2));
        dueShape(x, 2, 0, 9, 5);
        CHECKS.due("its least", 45, () -> x.least(2));
        CHECKS.due("a block behind a slice", 3, () -> x.block(1, 1, false));
        CHECKS.due("a slice of a slice", 4, () -> x.slice(3, 2, false));
        dueShape(x, 4, 0, 9, 6);
        CHECKS.due("X of the block behind a slice", 9, () -> x.at(3, 0));
    }

    private static void sliceUp() {
        SliceBlocks x = new SliceBlocks(1);
        x.block(7, 3, false);
        x.block(2, 5, false);
        CHECKS.due("slice not across", 2, () -> x.slice(1, 0, false));
        CHECKS.due("its shapes", 1, () -> x.shapes(2));
        dueShape(x, 2, 0, 7, 8);
        CHECKS.due("its least", 56, () -> x.least(2));
    }

    /** 2 x 8 or 8 x 2 beside 3 x 5 or 5 x 3: 5 x 8, 7 x 8 (matched), 11 x 5, 13 x 3. */
    private static void sliceDropsAndSorts() {
        SliceBlocks x = new SliceBlocks(1);
        x.block(8, 2, true);
        x.block(5, 3, true);
        x.slice(0, 1, true);
        CHECKS.due("shapes that stay", 3, () -> x.shapes(2));
        dueShape(x, 2, 0, 5, 8);
        dueShape(x, 2, 1, 11, 5);
        dueShape(x, 2, 2, 13, 3);
        CHECKS.due("least of three", 39, () -> x.least(2));
        SliceBlocks y = new SliceBlocks(1);
        y.block(8, 2, true);
        y.block(5, 3, true);
        y.slice(0, 1, false);
        CHECKS.due("shapes that stay, not across", 3, () -> y.shapes(2));
        dueShape(y, 2, 0, 3, 13);
        dueShape(y, 2, 1, 5, 11);
        dueShape(y, 2, 2, 8, 5);
    }

    /** Both ways to have 1 x 4 beside 4 x 1 are 5 x 4, which 2 x 4 matches: 2 x 4 and 8 x 1 stay. */
    private static void sameShapesOnce() {
        SliceBlocks x = new SliceBlocks(1);
        x.block(4, 1, true);
        x.block(1, 4, true);
        x.slice(0, 1, true);
        CHECKS.due("same shapes once", 2, () -> x.shapes(2));
        dueShape(x, 2, 0, 2, 4);
        dueShape(x, 2, 1, 8, 1);
    }

    private static void sliceErrors() {
        SliceBlocks x = new SliceBlocks(1);
        x.block(4, 1, true);
        x.block(1, 4, true);
        for (int wrong : new int[] {-1, 2, 39, 40, Integer.MIN_VALUE, Integer.MAX_VALUE}) {
            CHECKS.noIndex("slice(0, " + wrong + ")", () -> x.slice(0, wrong, true));
            CHECKS.noIndex("slice(" + wrong + ", 0)", () -> x.slice(wrong, 0, true));
        }
        CHECKS.noArgument("slice(1, 1)", () -> x.slice(1, 1, false));
        CHECKS.due("slice behind wrong ones", 2, () -> x.slice(1, 0, false));
        CHECKS.noState("slice(0, 2), 0 is in one", () -> x.slice(0, 2, false));
        CHECKS.noState("slice(2, 1), 1 is in one", () -> x.slice(2, 1, false));
        CHECKS.noArgument("slice(2, 2)", () -> x.slice(2, 2, false));
        CHECKS.noIndex("slice(2, 3) is none", () -> x.slice(2, 3, false));
        x.block(9, 9, false);
        CHECKS.due("slice(2, 3)", 4, () -> x.slice(2, 3, false));
    }

    private static void sliceOrderOfErrors() {
        SliceBlocks x = new SliceBlocks(1);
        x.block(4, 1, true);
        x.block(1, 4, true);
        x.slice(0, 1, true);
        CHECKS.noState("the same one, that is in a slice", () -> x.slice(0, 0, true));
        CHECKS.noIndex("one in a slice and none", () -> x.slice(0, 7, true));
        CHECKS.noIndex("the same none", () -> x.slice(7, 7, true));
    }

    private static void shapeErrors() {
        SliceBlocks x = new SliceBlocks(1);
        x.block(4, 1, true);
        for (int wrong : new int[] {-1, 2, 40, Integer.MIN_VALUE, Integer.MAX_VALUE}) {
            CHECKS.noIndex("shapes(" + wrong + ")", () -> x.shapes(wrong));
            CHECKS.noIndex("least(" + wrong + ")", () -> x.least(wrong));
            CHECKS.noIndex("shape of " + wrong, () -> x.shape(wrong, 0, 0));
            CHECKS.noIndex("shape " + wrong, () -> x.shape(0, wrong, 0));
            CHECKS.noIndex("side " + wrong, () -> x.shape(0, 0, wrong));
        }
        CHECKS.noIndex("shapes(1)", () -> x.shapes(1));
    }

    /** Block after block beside all before: a chain as deep as blocks let it be. */
    private static void longChain() {
        SliceBlocks x = new SliceBlocks(1);
        x.block(1000, 1000, true);
        int all = 0;
        for (int i = 1; i < 16; i++) {
            int block = x.block(1000, 1000, true);
            all = x.slice(all, block, true);
        }
        int last = all;
        CHECKS.due("things", 30, () -> last);
        CHECKS.due("shapes of the chain", 1, () -> x.shapes(last));
        dueShape(x, last, 0, 16000, 1000);
        CHECKS.due("least of the chain", 16000000, () -> x.least(last));
        CHECKS.noArgument("nothing is left for a slice", () -> x.slice(last, last, true));
    }

    /** Sides that are all different keep as many shapes as there can be. */
    private static void greatestTree() {
        SliceBlocks x = new SliceBlocks(1);
        int all = x.block(1, 1000, true);
        for (int i = 1; i < 16; i++) {
            int block = x.block(1 + i, 1000 - i, true);
            all = x.slice(all, block, true);
        }
        int last = all;
        int count = x.shapes(last);
        CHECKS.due("17 shapes", 17, () -> count);
        for (int k = 1; k < count; k++) {
            int here = k;
            CHECKS.due("widths rise, heights fall at " + k, true,
                () -> x.shape(last, here, 0) > x.shape(last, here - 1, 0)
                    && x.shape(last, here, 1) < x.shape(last, here - 1, 1));
        }
        dueShape(x, last, 0, 136, 1000);
    }

    private static void dueShape(SliceBlocks x, int node, int k, long width, long height) {
        CHECKS.due("width of shape " + k + " of " + node, width, () -> x.shape(node, k, 0));
        CHECKS.due("height of shape " + k + " of " + node, height, () -> x.shape(node, k, 1));
    }
}
