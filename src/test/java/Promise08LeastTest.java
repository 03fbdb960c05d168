/** Promise 8: least. */
public final class Promise08LeastTest {
    private static final Checks CHECKS = new Checks("Promise08LeastTest");

    public static void main(String[] args) {
        CHECKS.runCases(Promise08LeastTest.class);
    }

    static void promise8_theLeastBlock() {
        CHECKS.due("1 x 1", 1, () -> Floors.turningBy(1, 1, 1).least(0));
    }

    static void promise8_theGreatestBlock() {
        CHECKS.due("1000 x 1000", 1000000, () -> Floors.turningBy(1, 1000, 1000).least(0));
    }

    static void promise8_aBlockTurnedOrNotIsAsLarge() {
        CHECKS.due("7 x 3 that may be turned", 21, () -> Floors.turningBy(1, 7, 3).least(0));
        CHECKS.due("7 x 3 that may not", 21, () -> Floors.stiff(7, 3).least(0));
    }

    static void promise8_theOnlyShape() {
        SliceBlocks x = Floors.stiff(7, 3, 2, 5);
        x.slice(0, 1, true);
        CHECKS.due("9 x 5", 45, () -> x.least(2));
    }

    /** 5 x 8, 11 x 5 and 13 x 3. */
    static void promise8_theLastShapeIsTheLeast() {
        SliceBlocks x = Floors.turningBy(5, 8, 2, 5, 3);
        x.slice(0, 1, true);
        CHECKS.due("least", 39, () -> x.least(2));
    }

    /** 3 x 13, 5 x 11 and 8 x 5. */
    static void promise8_theFirstShapeIsTheLeast() {
        SliceBlocks x = Floors.turningBy(5, 8, 2, 5, 3);
        x.slice(0, 1, false);
        CHECKS.due("least", 39, () -> x.least(2));
    }

    /** 3 x 7, 4 x 4 and 6 x 3. */
    static void promise8_aShapeInTheMiddleIsTheLeast() {
        SliceBlocks x = Floors.turningBy(5, 1, 3, 2, 3, 1, 4);
        x.slice(0, 1, true);
        x.slice(3, 2, false);
        CHECKS.due("shapes", "3x7 4x4 6x3", () -> Floors.shapesOf(x, 4));
        CHECKS.due("least", 16, () -> x.least(4));
    }

    /** 8 blocks in a row below 8 in a pile, each 1000 x 1000: 8000 x 9000. */
    static void promise8_aTreeOf16GreatBlocks() {
        SliceBlocks x = Floors.row(16, 1000, 1000);
        int row = 0;
        int pile = 8;
        for (int i = 1; i < 8; i++) {
            row = x.slice(row, i, true);
            pile = x.slice(pile, 8 + i, false);
        }
        int below = row;
        int above = pile;
        CHECKS.due("slice", 30, () -> x.slice(below, above, false));
        CHECKS.due("least", 72000000, () -> x.least(30));
    }

    static void promise8_theLastThingIsTakenAndTheNextNumberIsRefused() {
        SliceBlocks x = Floors.stiff(7, 3, 2, 5);
        CHECKS.due("least(1)", 10, () -> x.least(1));
        CHECKS.noIndex("least(2)", () -> x.least(2));
    }

    static void promise8_theFirstThingIsTakenAndNumbersBelow0AreRefused() {
        SliceBlocks x = Floors.stiff(7, 3, 2, 5);
        CHECKS.due("least(0)", 21, () -> x.least(0));
        CHECKS.noIndex("least(-1)", () -> x.least(-1));
        CHECKS.noIndex("least(least int)", () -> x.least(Integer.MIN_VALUE));
    }

    static void promise8_numbersFarBeyondAreRefused() {
        SliceBlocks x = Floors.fullOfAll();
        CHECKS.due("least(30)", 136000, () -> x.least(30));
        for (int wrong : new int[] {31, 39, 40, 41, Integer.MAX_VALUE}) {
            CHECKS.noIndex("least(" + wrong + ")", () -> x.least(wrong));
        }
    }

    static void promise8_withoutThingsThereIsNone() {
        CHECKS.noIndex("least(0)", () -> new SliceBlocks(1).least(0));
    }

    static void promise8_thingsInASliceStillHaveTheirLeast() {
        SliceBlocks x = Floors.stiff(7, 3, 2, 5);
        x.slice(0, 1, true);
        CHECKS.due("least(0)", 21, () -> x.least(0));
        CHECKS.due("least(1)", 10, () -> x.least(1));
    }

    static void promise8_aRefusedCallChangesNothing() {
        Twins twins = new Twins(CHECKS, () -> Floors.turningBy(5, 8, 2, 5, 3));
        twins.noIndex("least(2)", x -> x.least(2));
        twins.noIndex("least(-1)", x -> x.least(-1));
    }

    static void promise8_anAnsweredCallChangesNothing() {
        new Twins(CHECKS, () -> Floors.turningBy(5, 8, 2, 5, 3)).leavesNothing("least(1)", 15, x -> x.least(1));
    }
}
