/** Promise 2: block. That 40 things refuse a block cannot be shown: 16 blocks make 31 things at most. */
public final class Promise02BlockTest {
    private static final Checks CHECKS = new Checks("Promise02BlockTest");

    public static void main(String[] args) {
        CHECKS.runCases(Promise02BlockTest.class);
    }

    static void promise2_aBlockAnswersItsNumber() {
        SliceBlocks x = new SliceBlocks(1);
        for (int i = 0; i < Floors.MOST_BLOCKS; i++) {
            int number = i;
            CHECKS.due("block " + i, number, () -> x.block(number + 1, 2, true));
        }
    }

    static void promise2_numbersGoOnBehindASlice() {
        SliceBlocks x = Floors.stiff(2, 2, 2, 2);
        x.slice(0, 1, true);
        CHECKS.due("block", 3, () -> x.block(1, 1, true));
        CHECKS.due("its place", "4,0", () -> Floors.place(x, 3));
    }

    static void promise2_aWidthOf1IsTaken() {
        SliceBlocks x = new SliceBlocks(1);
        CHECKS.due("block", 0, () -> x.block(1, 5, false));
        CHECKS.due("its shape", "1x5", () -> Floors.shapesOf(x, 0));
    }

    static void promise2_aWidthOf0IsRefused() {
        refusedForItsSide(0, 5);
    }

    static void promise2_aWidthOf1000IsTaken() {
        SliceBlocks x = new SliceBlocks(1);
        CHECKS.due("block", 0, () -> x.block(1000, 5, false));
        CHECKS.due("its shape", "1000x5", () -> Floors.shapesOf(x, 0));
    }

    static void promise2_aWidthOf1001IsRefused() {
        refusedForItsSide(1001, 5);
    }

    static void promise2_aHeightOf1IsTaken() {
        SliceBlocks x = new SliceBlocks(1);
        CHECKS.due("block", 0, () -> x.block(5, 1, false));
        CHECKS.due("its shape", "5x1", () -> Floors.shapesOf(x, 0));
    }

    static void promise2_aHeightOf0IsRefused() {
        refusedForItsSide(5, 0);
    }

    static void promise2_aHeightOf1000IsTaken() {
        SliceBlocks x = new SliceBlocks(1);
        CHECKS.due("block", 0, () -> x.block(5, 1000, false));
        CHECKS.due("its shape", "5x1000", () -> Floors.shapesOf(x, 0));
    }

    static void promise2_aHeightOf1001IsRefused() {
        refusedForItsSide(5, 1001);
    }

    static void promise2_theLeastAndTheGreatestBlockAreTaken() {
        SliceBlocks x = new SliceBlocks(1);
        CHECKS.due("1 x 1", 0, () -> x.block(1, 1, true));
        CHECKS.due("1000 x 1000", 1, () -> x.block(1000, 1000, true));
    }

    static void promise2_aSideBelow0IsRefused() {
        refusedForItsSide(-1, 5);
        refusedForItsSide(5, -1);
        refusedForItsSide(Long.MIN_VALUE, 5);
        refusedForItsSide(5, Long.MIN_VALUE);
    }

    /** The lower half of these numbers, as an int, would be a side. */
    static void promise2_aSideBeyondAnIntIsRefused() {
        refusedForItsSide((1L << 32) + 5, 5);
        refusedForItsSide(5, (1L << 32) + 5);
        refusedForItsSide(Long.MIN_VALUE + 5, 5);
        refusedForItsSide(5, Long.MIN_VALUE + 5);
        refusedForItsSide(Long.MAX_VALUE, 5);
        refusedForItsSide(5, Long.MAX_VALUE);
    }

    static void promise2_twoWrongSidesAreRefused() {
        refusedForItsSide(0, 1001);
        refusedForItsSide(-3, -3);
    }

    private static void refusedForItsSide(long width, long height) {
        SliceBlocks x = new SliceBlocks(1);
        for (boolean turns : new boolean[] {false, true}) {
            CHECKS.noArgument("block(" + width + ", " + height + ")", () -> x.block(width, height, turns));
        }
        CHECKS.noIndex("a refused block is no thing", () -> x.shapes(0));
        CHECKS.due("the next block", 0, () -> x.block(1, 1, true));
    }

    static void promise2_the16thIsTaken() {
        SliceBlocks x = Floors.row(15, 2, 2);
        CHECKS.due("the 16th", 15, () -> x.block(2, 2, true));
        CHECKS.due("its place", "30,0", () -> Floors.place(x, 15));
    }

    static void promise2_the17thIsRefused() {
        SliceBlocks x = Floors.row(16, 2, 2);
        CHECKS.noState("the 17th", () -> x.block(2, 2, true));
        CHECKS.noState("the 17th, asked again", () -> x.block(1000, 1, false));
        CHECKS.noIndex("it is no thing", () -> x.shapes(16));
    }

    static void promise2_slicesAreNotCountedAsBlocks() {
        SliceBlocks x = Floors.row(8, 2, 2);
        int last = Floors.sliceAll(x, 8, true);
        for (int i = 0; i < 8; i++) {
            int number = last + 1 + i;
            CHECKS.due("block behind 7 slices", number, () -> x.block(2, 2, true));
        }
        CHECKS.noState("the 17th", () -> x.block(2, 2, true));
    }

    static void promise2_the17thIsRefusedWhenAllAreInOneSlice() {
        SliceBlocks x = Floors.row(16, 2, 2);
        Floors.sliceAll(x, 16, false);
        CHECKS.noState("the 17th", () -> x.block(2, 2, true));
    }

    static void promise2_tooManyComesBeforeAWrongSide() {
        SliceBlocks x = Floors.row(16, 2, 2);
        CHECKS.noState("width 0", () -> x.block(0, 2, true));
        CHECKS.noState("height 1001", () -> x.block(2, 1001, true));
        SliceBlocks y = Floors.row(15, 2, 2);
        CHECKS.noArgument("width 0 of the 16th", () -> y.block(0, 2, true));
    }

    static void promise2_aWrongSideChangesNothing() {
        new Twins(CHECKS, () -> new SliceBlocks(5)).noArgument("block(0, 1)", x -> x.block(0, 1, true));
        Twins twins = new Twins(CHECKS, () -> Floors.turningBy(5, 3, 8, 9, 2, 4, 4));
        twins.noArgument("block(1, 1001)", x -> x.block(1, 1001, true));
        twins.noArgument("block(-7, 3)", x -> x.block(-7, 3, false));
        new Twins(CHECKS, () -> Floors.row(15, 3, 8)).noArgument("block(1001, 1)", x -> x.block(1001, 1, true));
    }

    static void promise2_the17thChangesNothing() {
        new Twins(CHECKS, Floors::full).noState("block(7, 7)", x -> x.block(7, 7, true));
        new Twins(CHECKS, Floors::fullOfAll).noState("block(7, 7)", x -> x.block(7, 7, true));
    }

    static void promise2_turnsTellsWhetherItMayBeTurned() {
        SliceBlocks x = new SliceBlocks(1);
        x.block(7, 3, true);
        x.block(7, 3, false);
        CHECKS.due("shapes of one that may", "3x7 7x3", () -> Floors.shapesOf(x, 0));
        CHECKS.due("shapes of one that may not", "7x3", () -> Floors.shapesOf(x, 1));
    }

    static void promise2_theFirstBlockIsAt0() {
        SliceBlocks x = new SliceBlocks(1);
        x.block(1000, 1000, true);
        CHECKS.due("its place", "0,0", () -> Floors.place(x, 0));
    }

    /** The orders are no longer the same: at the end of both, it is still right of all others. */
    static void promise2_aNewBlockIsAtTheEndOfBothOrders() {
        SliceBlocks x = Floors.pile();
        x.block(5, 5, false);
        CHECKS.due("block 0", "0,0", () -> Floors.place(x, 0));
        CHECKS.due("block 1", "0,4", () -> Floors.place(x, 1));
        CHECKS.due("the new one", "1,0", () -> Floors.place(x, 2));
        CHECKS.due("area", 6 * 7, () -> x.pair(0));
    }

    static void promise2_aNewBlockIsRightOfTheFarthestFixedOne() {
        SliceBlocks x = Floors.stiff(5, 2, 3, 9);
        x.fix(0, 20000, 20000);
        CHECKS.due("block 1", "20005,0", () -> Floors.place(x, 1));
        CHECKS.due("the new one", 2, () -> x.block(1, 1, true));
        CHECKS.due("its place", "20008,0", () -> Floors.place(x, 2));
    }

    static void promise2_aNewBlockIsNotTurned() {
        SliceBlocks x = Floors.turnedFirst();
        x.block(1, 9, true);
        CHECKS.due("the one before", true, () -> x.turned(0));
        CHECKS.due("the new one", false, () -> x.turned(2));
        CHECKS.due("area", 19 * 9, () -> x.pair(0));
    }

    /** The try behind a new block and a refused one draws what the seed draws first. */
    static void promise2_aBlockDrawsNothing() {
        SliceBlocks x = new SliceBlocks(Floors.seedOfPile());
        x.block(1, 4, false);
        CHECKS.noArgument("refused", () -> x.block(0, 3, false));
        x.block(1, 3, false);
        CHECKS.due("area of a pile", 7, () -> x.pair(1));
    }
}
