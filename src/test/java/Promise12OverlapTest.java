/**
 * Promise 12: overlap. That it is true cannot be shown: of two blocks one is left of the other or
 * below it, and ends where the other begins or before, or what is kept would be no plan.
 */
public final class Promise12OverlapTest {
    private static final Checks CHECKS = new Checks("Promise12OverlapTest");

    public static void main(String[] args) {
        CHECKS.runCases(Promise12OverlapTest.class);
    }

    static void promise12_withoutBlocksThereIsNone() {
        CHECKS.due("overlap", false, () -> new SliceBlocks(1).overlap());
    }

    static void promise12_oneBlockHasNoRoomInCommonWithItself() {
        SliceBlocks x = Floors.stiff(5, 2);
        CHECKS.due("at 0,0", false, () -> x.overlap());
        x.fix(0, 20000, 20000);
        CHECKS.due("far away", false, () -> x.overlap());
    }

    static void promise12_blocksThatTouchSideBySideHaveNone() {
        CHECKS.due("two", false, () -> Floors.stiff(5, 2, 3, 9).overlap());
        CHECKS.due("sixteen", false, () -> Floors.row(16, 1000, 1000).overlap());
    }

    static void promise12_blocksThatTouchOneAboveTheOtherHaveNone() {
        SliceBlocks x = Floors.pile();
        CHECKS.due("overlap", false, () -> x.overlap());
    }

    static void promise12_blocksThatTouchAtACornerHaveNone() {
        SliceBlocks x = Floors.stiff(5, 2, 3, 9);
        x.fix(1, 5, 2);
        CHECKS.due("overlap", false, () -> x.overlap());
    }

    static void promise12_blocksAsHighButApartHaveNone() {
        SliceBlocks x = Floors.stiff(5, 2, 3, 9);
        x.fix(1, 20000, 0);
        CHECKS.due("overlap", false, () -> x.overlap());
    }

    static void promise12_blocksAsFarRightButApartHaveNone() {
        SliceBlocks x = Floors.pile();
        x.fix(1, 0, 20000);
        CHECKS.due("overlap", false, () -> x.overlap());
    }

    /** Both would have room in common if it were taken. */
    static void promise12_aFixThatIsNoneLeavesNone() {
        SliceBlocks x = Floors.stiff(5, 2, 3, 9);
        CHECKS.due("fix", false, () -> x.fix(1, 4, 1));
        CHECKS.due("overlap", false, () -> x.overlap());
    }

    static void promise12_aTurnedBlockHasNone() {
        SliceBlocks x = Floors.turnedFirst();
        CHECKS.due("overlap", false, () -> x.overlap());
    }

    static void promise12_aFullObjectHasNoneBehindTries() {
        for (int tries : new int[] {0, 1, 20, 2000}) {
            SliceBlocks x = Floors.full();
            x.fix(3, 60, 40);
            x.fix(9, 500, 0);
            x.pair(tries);
            CHECKS.due("behind " + tries + " tries", false, () -> x.overlap());
        }
    }

    static void promise12_anAnsweredCallChangesNothing() {
        new Twins(CHECKS, Floors::turnedFirst).leavesNothing("overlap()", false, x -> x.overlap());
    }
}
