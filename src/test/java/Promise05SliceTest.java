/** Promise 5: slice. That 40 things refuse a slice cannot be shown: 16 blocks make 31 things at most. */
public final class Promise05SliceTest {
    private static final Checks CHECKS = new Checks("Promise05SliceTest");

    public static void main(String[] args) {
        CHECKS.runCases(Promise05SliceTest.class);
    }

    /** Blocks 0 to 3, and slice 4 of blocks 0 and 1. */
    private static SliceBlocks withASlice() {
        SliceBlocks x = Floors.turningBy(5, 4, 1, 1, 4, 7, 3, 2, 5);
        x.slice(0, 1, true);
        return x;
    }

    static void promise5_aSliceAnswersItsNumber() {
        SliceBlocks x = Floors.row(4, 2, 2);
        CHECKS.due("of two blocks", 4, () -> x.slice(0, 1, true));
        CHECKS.due("of two blocks", 5, () -> x.slice(3, 2, false));
        CHECKS.due("of two slices", 6, () -> x.slice(5, 4, true));
    }

    static void promise5_aSliceOfASliceAndABlock() {
        SliceBlocks x = withASlice();
        CHECKS.due("of a slice and a block", 5, () -> x.slice(4, 2, false));
        CHECKS.due("of a block and a slice", 6, () -> x.slice(3, 5, false));
    }

    static void promise5_acrossAddsWidthsAndTakesTheGreaterHeight() {
        SliceBlocks x = Floors.stiff(7, 3, 2, 5, 4, 5);
        x.slice(0, 1, true);
        CHECKS.due("the second is higher", "9x5", () -> Floors.shapesOf(x, 3));
        x.slice(3, 2, true);
        CHECKS.due("both are as high", "13x5", () -> Floors.shapesOf(x, 4));
        SliceBlocks y = Floors.stiff(2, 5, 7, 3);
        y.slice(0, 1, true);
        CHECKS.due("the first is higher", "9x5", () -> Floors.shapesOf(y, 2));
    }

    static void promise5_notAcrossAddsHeightsAndTakesTheGreaterWidth() {
        SliceBlocks x = Floors.stiff(3, 7, 5, 2, 5, 4);
        x.slice(0, 1, false);
        CHECKS.due("the second is wider", "5x9", () -> Floors.shapesOf(x, 3));
        x.slice(3, 2, false);
        CHECKS.due("both are as wide", "5x13", () -> Floors.shapesOf(x, 4));
        SliceBlocks y = Floors.stiff(5, 2, 3, 7);
        y.slice(0, 1, false);
        CHECKS.due("the first is wider", "5x9", () -> Floors.shapesOf(y, 2));
    }

    static void promise5_oneThatIsInASliceIsRefusedAsTheFirst() {
        SliceBlocks x = withASlice();
        CHECKS.noState("slice(0, 2)", () -> x.slice(0, 2, true));
        CHECKS.noState("slice(1, 2)", () -> x.slice(1, 2, false));
        CHECKS.noState("slice(0, 4), its own slice", () -> x.slice(0, 4, false));
    }

    static void promise5_oneThatIsInASliceIsRefusedAsTheSecond() {
        SliceBlocks x = withASlice();
        CHECKS.noState("slice(2, 0)", () -> x.slice(2, 0, true));
        CHECKS.noState("slice(2, 1)", () -> x.slice(2, 1, false));
        CHECKS.noState("slice(4, 1), its own slice", () -> x.slice(4, 1, false));
    }

    static void promise5_twoThatAreInOneSliceAreRefused() {
        SliceBlocks x = withASlice();
        CHECKS.noState("slice(0, 1)", () -> x.slice(0, 1, true));
        CHECKS.noState("slice(1, 0)", () -> x.slice(1, 0, false));
    }

    static void promise5_aSliceThatIsInASliceIsRefused() {
        SliceBlocks x = withASlice();
        x.slice(4, 2, true);
        CHECKS.noState("slice(4, 3)", () -> x.slice(4, 3, true));
        CHECKS.noState("slice(3, 4)", () -> x.slice(3, 4, true));
        CHECKS.due("slice(5, 3)", 6, () -> x.slice(5, 3, true));
    }

    static void promise5_bothTheSameAreRefused() {
        SliceBlocks x = withASlice();
        CHECKS.noArgument("a block", () -> x.slice(2, 2, true));
        CHECKS.noArgument("a slice", () -> x.slice(4, 4, false));
    }

    static void promise5_theLastThingIsTakenAndTheNextNumberIsRefused() {
        SliceBlocks x = withASlice();
        CHECKS.noIndex("slice(5, 2)", () -> x.slice(5, 2, true));
        CHECKS.noIndex("slice(2, 5)", () -> x.slice(2, 5, true));
        CHECKS.due("slice(2, 4)", 5, () -> x.slice(2, 4, true));
    }

    static void promise5_numbersBelow0AreRefused() {
        SliceBlocks x = withASlice();
        for (int wrong : new int[] {-1, -40, Integer.MIN_VALUE}) {
            CHECKS.noIndex("slice(" + wrong + ", 2)", () -> x.slice(wrong, 2, true));
            CHECKS.noIndex("slice(2, " + wrong + ")", () -> x.slice(2, wrong, true));
        }
    }

    static void promise5_numbersFarBeyondAreRefused() {
        SliceBlocks x = withASlice();
        for (int wrong : new int[] {16, 39, 40, 1000, Integer.MAX_VALUE}) {
            CHECKS.noIndex("slice(" + wrong + ", 2)", () -> x.slice(wrong, 2, true));
            CHECKS.noIndex("slice(2, " + wrong + ")", () -> x.slice(2, wrong, true));
        }
    }

    static void promise5_noThingComesBeforeOneInASlice() {
        SliceBlocks x = withASlice();
        CHECKS.noIndex("slice(0, 5)", () -> x.slice(0, 5, true));
        CHECKS.noIndex("slice(-1, 1)", () -> x.slice(-1, 1, true));
    }

    static void promise5_noThingComesBeforeBothTheSame() {
        SliceBlocks x = withASlice();
        CHECKS.noIndex("slice(5, 5)", () -> x.slice(5, 5, true));
        CHECKS.noIndex("slice(-1, -1)", () -> x.slice(-1, -1, true));
    }

    static void promise5_oneInASliceComesBeforeBothTheSame() {
        SliceBlocks x = withASlice();
        CHECKS.noState("slice(0, 0)", () -> x.slice(0, 0, true));
        CHECKS.noState("slice(1, 1)", () -> x.slice(1, 1, false));
    }

    static void promise5_withoutThingsThereIsNone() {
        SliceBlocks x = new SliceBlocks(1);
        CHECKS.noIndex("slice(0, 1)", () -> x.slice(0, 1, true));
        CHECKS.noIndex("slice(0, 0)", () -> x.slice(0, 0, true));
    }

    static void promise5_oneBlockAloneHasNoPartner() {
        SliceBlocks x = Floors.stiff(2, 2);
        CHECKS.noArgument("slice(0, 0)", () -> x.slice(0, 0, true));
        CHECKS.noIndex("slice(0, 1)", () -> x.slice(0, 1, true));
    }

    static void promise5_fifteenSlicesTakeIn16Blocks() {
        SliceBlocks x = Floors.row(16, 1000, 1000);
        int all = 0;
        for (int block = 1; block < 16; block++) {
            int before = all;
            int number = block;
            CHECKS.due("slice " + block, 15 + block, () -> x.slice(before, number, true));
            all = 15 + block;
        }
        CHECKS.due("the last one", "16000x1000", () -> Floors.shapesOf(x, 30));
        CHECKS.noArgument("there is one left", () -> x.slice(30, 30, true));
        CHECKS.noState("all others are in it", () -> x.slice(30, 29, true));
    }

    static void promise5_noThingChangesNothing() {
        Twins twins = new Twins(CHECKS, Promise05SliceTest::withASlice);
        twins.noIndex("slice(2, 5)", x -> x.slice(2, 5, true));
        twins.noIndex("slice(5, 2)", x -> x.slice(5, 2, true));
        twins.noIndex("slice(-1, 4)", x -> x.slice(-1, 4, false));
        new Twins(CHECKS, () -> new SliceBlocks(5)).noIndex("slice(0, 1)", x -> x.slice(0, 1, true));
        new Twins(CHECKS, Floors::fullOfAll).noIndex("slice(30, 31)", x -> x.slice(30, 31, true));
    }

    static void promise5_oneInASliceChangesNothing() {
        Twins twins = new Twins(CHECKS, Promise05SliceTest::withASlice);
        twins.noState("slice(2, 0)", x -> x.slice(2, 0, true));
        twins.noState("slice(1, 3)", x -> x.slice(1, 3, true));
        new Twins(CHECKS, Floors::fullOfAll).noState("slice(30, 29)", x -> x.slice(30, 29, true));
    }

    static void promise5_bothTheSameChangesNothing() {
        Twins twins = new Twins(CHECKS, Promise05SliceTest::withASlice);
        twins.noArgument("slice(2, 2)", x -> x.slice(2, 2, true));
        twins.noArgument("slice(4, 4)", x -> x.slice(4, 4, false));
        new Twins(CHECKS, Floors::fullOfAll).noArgument("slice(30, 30)", x -> x.slice(30, 30, true));
    }

    static void promise5_aSliceLeavesThePlan() {
        SliceBlocks x = withASlice();
        CHECKS.due("block 3", "12,0", () -> Floors.place(x, 3));
        CHECKS.due("area", 14 * 5, () -> x.pair(0));
        CHECKS.due("outline", true, () -> x.outline(14, 5));
    }

    /** A plan with a block turned, or fixed, is one thing; the shapes of a slice are another. */
    static void promise5_aTurnedBlockHasBothItsShapesInASlice() {
        SliceBlocks x = Floors.turnedFirst();
        x.fix(0, 3, 3);
        x.slice(0, 1, true);
        CHECKS.due("shapes", "10x9 18x1", () -> Floors.shapesOf(x, 2));
    }

    static void promise5_aSliceDrawsNothing() {
        SliceBlocks x = Floors.stiffBy(Floors.seedOfPile(), 1, 4, 1, 3);
        x.slice(0, 1, true);
        CHECKS.noState("refused", () -> x.slice(0, 1, true));
        CHECKS.due("area of a pile", 7, () -> x.pair(1));
    }
}
