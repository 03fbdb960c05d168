/** Promise 7: shape. */
public final class Promise07ShapeTest {
    private static final Checks CHECKS = new Checks("Promise07ShapeTest");

    public static void main(String[] args) {
        CHECKS.runCases(Promise07ShapeTest.class);
    }

    /** Slice 2 of two blocks has the shapes 5 x 8, 11 x 5 and 13 x 3. */
    private static SliceBlocks withASlice() {
        SliceBlocks x = Floors.turningBy(5, 8, 2, 5, 3);
        x.slice(0, 1, true);
        return x;
    }

    static void promise7_side0IsTheWidthAndSide1TheHeight() {
        SliceBlocks x = Floors.stiff(7, 3);
        CHECKS.due("width", 7, () -> x.shape(0, 0, 0));
        CHECKS.due("height", 3, () -> x.shape(0, 0, 1));
    }

    static void promise7_side2IsRefused() {
        SliceBlocks x = withASlice();
        for (int wrong : new int[] {2, 3, 1000, Integer.MAX_VALUE}) {
            CHECKS.noIndex("side " + wrong, () -> x.shape(2, 0, wrong));
            CHECKS.noIndex("side " + wrong + " of a block", () -> x.shape(0, 0, wrong));
        }
    }

    static void promise7_sidesBelow0AreRefused() {
        SliceBlocks x = withASlice();
        CHECKS.noIndex("side -1", () -> x.shape(2, 0, -1));
        CHECKS.noIndex("the least int", () -> x.shape(2, 0, Integer.MIN_VALUE));
    }

    static void promise7_theLastShapeIsTakenAndTheNextIsRefused() {
        SliceBlocks x = withASlice();
        CHECKS.due("shape 2", 13, () -> x.shape(2, 2, 0));
        CHECKS.noIndex("shape 3", () -> x.shape(2, 3, 0));
        CHECKS.noIndex("the greatest int", () -> x.shape(2, Integer.MAX_VALUE, 0));
    }

    /** There were four ways to put both together, of which three are shapes. */
    static void promise7_aShapeRuledOutLeavesNoPlaceBehind() {
        SliceBlocks x = withASlice();
        CHECKS.noIndex("shape 3, width", () -> x.shape(2, 3, 0));
        CHECKS.noIndex("shape 3, height", () -> x.shape(2, 3, 1));
        SliceBlocks y = Floors.turningBy(1, 4, 4);
        CHECKS.noIndex("shape 1 of a square", () -> y.shape(0, 1, 0));
    }

    static void promise7_theSecondShapeOfABlockIsThereOnlyIfItMayBeTurned() {
        SliceBlocks x = new SliceBlocks(1);
        x.block(7, 3, true);
        x.block(7, 3, false);
        CHECKS.due("one that may", 7, () -> x.shape(0, 1, 0));
        CHECKS.noIndex("one that may not", () -> x.shape(1, 1, 0));
    }

    static void promise7_shapesBelow0AreRefused() {
        SliceBlocks x = withASlice();
        CHECKS.due("shape 0", 5, () -> x.shape(2, 0, 0));
        CHECKS.noIndex("shape -1", () -> x.shape(2, -1, 0));
        CHECKS.noIndex("the least int", () -> x.shape(2, Integer.MIN_VALUE, 0));
    }

    static void promise7_theLastThingIsTakenAndTheNextNumberIsRefused() {
        SliceBlocks x = withASlice();
        CHECKS.due("thing 2", 5, () -> x.shape(2, 0, 0));
        CHECKS.noIndex("thing 3", () -> x.shape(3, 0, 0));
    }

    static void promise7_thingsBelow0AreRefused() {
        SliceBlocks x = withASlice();
        CHECKS.due("thing 0", 2, () -> x.shape(0, 0, 0));
        CHECKS.noIndex("thing -1", () -> x.shape(-1, 0, 0));
        CHECKS.noIndex("the least int", () -> x.shape(Integer.MIN_VALUE, 0, 0));
    }

    static void promise7_thingsFarBeyondAreRefused() {
        SliceBlocks x = Floors.fullOfAll();
        for (int wrong : new int[] {31, 39, 40, 41, Integer.MAX_VALUE}) {
            CHECKS.noIndex("thing " + wrong, () -> x.shape(wrong, 0, 0));
        }
    }

    static void promise7_severalWrongNumbersAreRefused() {
        SliceBlocks x = withASlice();
        CHECKS.noIndex("all", () -> x.shape(-1, -1, -1));
        CHECKS.noIndex("shape and side", () -> x.shape(2, 3, 2));
        CHECKS.noIndex("thing and side", () -> x.shape(3, 0, 2));
    }

    static void promise7_withoutThingsThereIsNone() {
        CHECKS.noIndex("shape(0, 0, 0)", () -> new SliceBlocks(1).shape(0, 0, 0));
    }

    static void promise7_shapesAreByRisingWidths() {
        SliceBlocks x = withASlice();
        CHECKS.due("across", "5x8 11x5 13x3", () -> Floors.shapesOf(x, 2));
        SliceBlocks y = Floors.turningBy(5, 8, 2, 5, 3);
        y.slice(1, 0, false);
        CHECKS.due("not across", "3x13 5x11 8x5", () -> Floors.shapesOf(y, 2));
    }

    static void promise7_theNarrowerShapeOfABlockIsFirstHoweverItWasTold() {
        SliceBlocks x = Floors.turningBy(1, 7, 3, 3, 7);
        CHECKS.due("told wide", "3x7 7x3", () -> Floors.shapesOf(x, 0));
        CHECKS.due("told high", "3x7 7x3", () -> Floors.shapesOf(x, 1));
    }

    static void promise7_theLeastSides() {
        SliceBlocks x = Floors.turningBy(1, 1, 1);
        CHECKS.due("1 x 1", "1x1", () -> Floors.shapesOf(x, 0));
    }

    static void promise7_theGreatestWidthAndTheGreatestHeight() {
        SliceBlocks x = Floors.row(16, 1000, 1);
        Floors.sliceAll(x, 16, true);
        CHECKS.due("width", 16000, () -> x.shape(30, 0, 0));
        SliceBlocks y = Floors.row(16, 1, 1000);
        Floors.sliceAll(y, 16, false);
        CHECKS.due("height", 16000, () -> y.shape(30, 0, 1));
    }

    /** From all as they were told (1 .. 16 wide) to all turned (1000 down to 985 wide). */
    static void promise7_the17ShapesOfAFullTreeRiseAndFall() {
        SliceBlocks x = Floors.full();
        Floors.sliceAll(x, Floors.MOST_BLOCKS, true);
        CHECKS.due("the first", "136x1000", () -> x.shape(30, 0, 0) + "x" + x.shape(30, 0, 1));
        CHECKS.due("the last", "15880x16", () -> x.shape(30, 16, 0) + "x" + x.shape(30, 16, 1));
        CHECKS.noIndex("one more", () -> x.shape(30, 17, 0));
        for (int k = 1; k < 17; k++) {
            int here = k;
            CHECKS.due("wider at " + k, true, () -> x.shape(30, here, 0) > x.shape(30, here - 1, 0));
            CHECKS.due("less high at " + k, true, () -> x.shape(30, here, 1) < x.shape(30, here - 1, 1));
        }
    }

    static void promise7_aRefusedCallChangesNothing() {
        Twins twins = new Twins(CHECKS, Promise07ShapeTest::withASlice);
        twins.noIndex("shape(2, 3, 0)", x -> x.shape(2, 3, 0));
        twins.noIndex("shape(2, 0, 2)", x -> x.shape(2, 0, 2));
        twins.noIndex("shape(3, 0, 0)", x -> x.shape(3, 0, 0));
    }

    static void promise7_anAnsweredCallChangesNothing() {
        new Twins(CHECKS, Promise07ShapeTest::withASlice).leavesNothing("shape(2, 1, 1)", 5, x -> x.shape(2, 1, 1));
    }
}
