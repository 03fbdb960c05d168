/** Promise 6: shapes. */
public final class Promise06ShapesTest {
    private static final Checks CHECKS = new Checks("Promise06ShapesTest");

    public static void main(String[] args) {
        CHECKS.runCases(Promise06ShapesTest.class);
    }

    static void promise6_aBlockThatMayNotBeTurnedHasOne() {
        SliceBlocks x = Floors.stiff(7, 3, 4, 4);
        CHECKS.due("7 x 3", 1, () -> x.shapes(0));
        CHECKS.due("4 x 4", 1, () -> x.shapes(1));
    }

    static void promise6_aBlockThatMayBeTurnedHasTwo() {
        SliceBlocks x = Floors.turningBy(1, 7, 3, 3, 4, 1, 1000);
        CHECKS.due("7 x 3", 2, () -> x.shapes(0));
        CHECKS.due("3 x 4", 2, () -> x.shapes(1));
        CHECKS.due("1 x 1000", 2, () -> x.shapes(2));
    }

    static void promise6_aSquareThatMayBeTurnedHasOne() {
        SliceBlocks x = Floors.turningBy(1, 4, 4, 1, 1, 1000, 1000);
        CHECKS.due("4 x 4", 1, () -> x.shapes(0));
        CHECKS.due("1 x 1", 1, () -> x.shapes(1));
        CHECKS.due("1000 x 1000", 1, () -> x.shapes(2));
    }

    /** 2 x 8 or 8 x 2 beside 3 x 5 or 5 x 3: 5 x 8, 7 x 8 (as high and wider), 11 x 5, 13 x 3. */
    static void promise6_aWiderShapeThatIsAsHighIsNone() {
        SliceBlocks x = Floors.turningBy(1, 8, 2, 5, 3);
        x.slice(0, 1, true);
        CHECKS.due("shapes", 3, () -> x.shapes(2));
    }

    /** 8 x 2 or 2 x 8 below 5 x 3 or 3 x 5: 8 x 5, 8 x 7 (as wide and higher), 5 x 11, 3 x 13. */
    static void promise6_aHigherShapeThatIsAsWideIsNone() {
        SliceBlocks x = Floors.turningBy(1, 8, 2, 5, 3);
        x.slice(0, 1, false);
        CHECKS.due("shapes", 3, () -> x.shapes(2));
    }

    /** Beside a stiff 2 x 9 all are 9 high: the narrower one stays. */
    static void promise6_ofShapesAsHighTheNarrowestStays() {
        SliceBlocks x = new SliceBlocks(1);
        x.block(4, 3, true);
        x.block(2, 9, false);
        x.slice(0, 1, true);
        CHECKS.due("shapes", "5x9", () -> Floors.shapesOf(x, 2));
        CHECKS.due("how many", 1, () -> x.shapes(2));
    }

    /** Both ways to have 1 x 4 beside 4 x 1 are 5 x 4, which 2 x 4 rules out. */
    static void promise6_theSameShapeTwiceIsNotCountedTwice() {
        SliceBlocks x = Floors.turningBy(1, 4, 1, 1, 4);
        x.slice(0, 1, true);
        CHECKS.due("shapes", "2x4 8x1", () -> Floors.shapesOf(x, 2));
        CHECKS.due("how many", 2, () -> x.shapes(2));
    }

    /** 2 x 7 or 7 x 2 below 7 x 14 or 14 x 7: 7 x 21 and 14 x 14, then 7 x 16 and 14 x 9 rule them out. */
    static void promise6_laterShapesRuleOutEarlierOnes() {
        SliceBlocks x = Floors.turningBy(1, 7, 2, 7, 14);
        x.slice(0, 1, false);
        CHECKS.due("shapes", "7x16 14x9", () -> Floors.shapesOf(x, 2));
    }

    static void promise6_aSliceOfStiffBlocksHasOne() {
        SliceBlocks x = Floors.stiff(7, 3, 2, 5, 9, 9);
        x.slice(0, 1, true);
        x.slice(3, 2, false);
        CHECKS.due("slice 3", 1, () -> x.shapes(3));
        CHECKS.due("slice 4", 1, () -> x.shapes(4));
    }

    /** Each of two lists gives its sides, but the highest ones stand together: 17 of 16 blocks. */
    static void promise6_sixteenBlocksHave17AtMost() {
        for (boolean across : new boolean[] {true, false}) {
            SliceBlocks x = Floors.full();
            Floors.sliceAll(x, Floors.MOST_BLOCKS, across);
            CHECKS.due("all", 17, () -> x.shapes(30));
            CHECKS.due("all but one", 16, () -> x.shapes(29));
            CHECKS.due("the first slice", 3, () -> x.shapes(16));
        }
    }

    static void promise6_thingsInASliceStillHaveTheirShapes() {
        SliceBlocks x = Floors.turningBy(1, 8, 2, 5, 3);
        x.slice(0, 1, true);
        CHECKS.due("block 0", 2, () -> x.shapes(0));
        CHECKS.due("block 1", 2, () -> x.shapes(1));
    }

    static void promise6_theLastThingIsTakenAndTheNextNumberIsRefused() {
        SliceBlocks x = Floors.turningBy(1, 8, 2, 5, 3);
        CHECKS.due("shapes(1)", 2, () -> x.shapes(1));
        CHECKS.noIndex("shapes(2)", () -> x.shapes(2));
        x.slice(0, 1, true);
        CHECKS.due("shapes(2), now a slice", 3, () -> x.shapes(2));
        CHECKS.noIndex("shapes(3)", () -> x.shapes(3));
    }

    static void promise6_theFirstThingIsTakenAndNumbersBelow0AreRefused() {
        SliceBlocks x = Floors.turningBy(1, 8, 2);
        CHECKS.due("shapes(0)", 2, () -> x.shapes(0));
        CHECKS.noIndex("shapes(-1)", () -> x.shapes(-1));
        CHECKS.noIndex("shapes(least int)", () -> x.shapes(Integer.MIN_VALUE));
    }

    static void promise6_numbersFarBeyondAreRefused() {
        SliceBlocks x = Floors.fullOfAll();
        for (int wrong : new int[] {31, 39, 40, 41, 1000, Integer.MAX_VALUE}) {
            CHECKS.noIndex("shapes(" + wrong + ")", () -> x.shapes(wrong));
        }
    }

    static void promise6_withoutThingsThereIsNone() {
        CHECKS.noIndex("shapes(0)", () -> new SliceBlocks(1).shapes(0));
    }

    static void promise6_aRefusedCallChangesNothing() {
        Twins twins = new Twins(CHECKS, () -> Floors.turningBy(5, 8, 2, 5, 3));
        twins.noIndex("shapes(2)", x -> x.shapes(2));
        twins.noIndex("shapes(-1)", x -> x.shapes(-1));
    }

    static void promise6_anAnsweredCallChangesNothing() {
        new Twins(CHECKS, () -> Floors.turningBy(5, 8, 2, 5, 3)).leavesNothing("shapes(1)", 2, x -> x.shapes(1));
    }
}
