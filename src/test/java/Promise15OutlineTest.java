/** Promise 15: outline. */
public final class Promise15OutlineTest {
    private static final Checks CHECKS = new Checks("Promise15OutlineTest");

    public static void main(String[] args) {
        CHECKS.runCases(Promise15OutlineTest.class);
    }

    /** A row, 8 wide and 9 high. */
    private static SliceBlocks row() {
        return Floors.stiff(5, 2, 3, 9);
    }

    static void promise15_aWidthOf1IsTaken() {
        CHECKS.due("too narrow", false, () -> row().outline(1, 9));
        CHECKS.due("1 x 1 within 1 x 1", true, () -> Floors.stiff(1, 1).outline(1, 1));
    }

    static void promise15_aWidthOf0IsRefused() {
        SliceBlocks x = row();
        for (long wrong : new long[] {0, -1, -8, Long.MIN_VALUE, -(1L << 32) + 100}) {
            CHECKS.noArgument("outline(" + wrong + ", 9)", () -> x.outline(wrong, 9));
        }
    }

    static void promise15_aHeightOf1IsTaken() {
        CHECKS.due("too low", false, () -> row().outline(8, 1));
    }

    static void promise15_aHeightOf0IsRefused() {
        SliceBlocks x = row();
        for (long wrong : new long[] {0, -1, -9, Long.MIN_VALUE, -(1L << 32) + 100}) {
            CHECKS.noArgument("outline(8, " + wrong + ")", () -> x.outline(8, wrong));
        }
    }

    static void promise15_twoWrongSidesAreRefused() {
        CHECKS.noArgument("outline(0, 0)", () -> row().outline(0, 0));
    }

    /** The other side is too small already, or the plan has none: the exception comes all the same. */
    static void promise15_aWrongSideIsRefusedWhateverTheOtherTells() {
        CHECKS.noArgument("too narrow", () -> row().outline(1, 0));
        CHECKS.noArgument("too low", () -> row().outline(0, 1));
        CHECKS.noArgument("no blocks, width", () -> new SliceBlocks(1).outline(0, 1));
        CHECKS.noArgument("no blocks, height", () -> new SliceBlocks(1).outline(1, 0));
    }

    static void promise15_withoutBlocksAllLiesWithin() {
        SliceBlocks x = new SliceBlocks(1);
        CHECKS.due("1 x 1", true, () -> x.outline(1, 1));
        CHECKS.due("the greatest", true, () -> x.outline(Long.MAX_VALUE, Long.MAX_VALUE));
    }

    static void promise15_itsVeryWidthIsEnoughAndOneLessIsNot() {
        SliceBlocks x = row();
        CHECKS.due("8", true, () -> x.outline(8, 100));
        CHECKS.due("7", false, () -> x.outline(7, 100));
    }

    static void promise15_itsVeryHeightIsEnoughAndOneLessIsNot() {
        SliceBlocks x = row();
        CHECKS.due("9", true, () -> x.outline(100, 9));
        CHECKS.due("8", false, () -> x.outline(100, 8));
    }

    static void promise15_bothSidesExact() {
        CHECKS.due("8 x 9", true, () -> row().outline(8, 9));
        CHECKS.due("not with both exchanged", false, () -> row().outline(9, 8));
    }

    static void promise15_theGreatestNumbersAreTaken() {
        SliceBlocks x = row();
        CHECKS.due("the greatest long", true, () -> x.outline(Long.MAX_VALUE, Long.MAX_VALUE));
        CHECKS.due("beyond an int", true, () -> x.outline(1L << 32, 1L << 32));
        CHECKS.due("beyond an int, too low", false, () -> x.outline(1L << 32, 8));
        CHECKS.due("half an int", true, () -> x.outline(1L << 31, 1L << 31));
    }

    /** It is 8 x 9 in itself, but counted from 0 on. */
    static void promise15_aPlanFarAwayIsCountedFrom0() {
        SliceBlocks x = row();
        x.fix(0, 20000, 20000);
        CHECKS.due("its own size", false, () -> x.outline(8, 9));
        CHECKS.due("from 0 on", true, () -> x.outline(20008, 20002));
        CHECKS.due("one less wide", false, () -> x.outline(20007, 20002));
        CHECKS.due("one less high", false, () -> x.outline(20008, 20001));
    }

    static void promise15_aFullObject() {
        SliceBlocks x = Floors.row(16, 1000, 1000);
        x.fix(0, 20000, 20000);
        CHECKS.due("exact", true, () -> x.outline(36000, 21000));
        CHECKS.due("one less wide", false, () -> x.outline(35999, 21000));
        CHECKS.due("one less high", false, () -> x.outline(36000, 20999));
    }

    static void promise15_sidesCountAsTurned() {
        SliceBlocks x = Floors.turnedFirst();
        CHECKS.due("exact", true, () -> x.outline(18, 1));
        CHECKS.due("one less wide", false, () -> x.outline(17, 1000));
    }

    static void promise15_itIsOfThePlanKept() {
        SliceBlocks x = Floors.pile();
        CHECKS.due("the pile", true, () -> x.outline(1, 7));
        SliceBlocks y = Floors.stiffBy(Chance.seedFor("3: 0 0 1", "3: 0 0 0"), 1, 6, 3, 2, 2, 1);
        y.pair(2);
        CHECKS.due("the row", true, () -> y.outline(6, 6));
        CHECKS.due("the pile at hand", false, () -> y.outline(5, 8));
    }

    static void promise15_aFixThatIsNoneLeavesIt() {
        SliceBlocks x = row();
        CHECKS.due("fix", false, () -> x.fix(1, 4, 500));
        CHECKS.due("exact", true, () -> x.outline(8, 9));
    }

    static void promise15_aRefusedCallChangesNothing() {
        Twins twins = new Twins(CHECKS, Promise15OutlineTest::row);
        twins.noArgument("outline(0, 9)", x -> x.outline(0, 9));
        twins.noArgument("outline(9, 0)", x -> x.outline(9, 0));
        new Twins(CHECKS, () -> new SliceBlocks(5)).noArgument("outline(0, 0)", x -> x.outline(0, 0));
    }

    static void promise15_anAnsweredCallChangesNothing() {
        Twins twins = new Twins(CHECKS, Promise15OutlineTest::row);
        twins.leavesNothing("outline(8, 9)", true, x -> x.outline(8, 9));
        twins.leavesNothing("outline(7, 9)", false, x -> x.outline(7, 9));
    }
}
