/** Promise 3: fix. */
public final class Promise03FixTest {
    private static final Checks CHECKS = new Checks("Promise03FixTest");

    public static void main(String[] args) {
        CHECKS.runCases(Promise03FixTest.class);
    }

    /** 5 x 2, 3 x 9 and 1 x 4, in a row. */
    private static SliceBlocks three() {
        return Floors.stiff(5, 2, 3, 9, 1, 4);
    }

    static void promise3_aBlockIsWhereItWasTold() {
        SliceBlocks x = three();
        CHECKS.due("fix(1, 7, 6)", true, () -> x.fix(1, 7, 6));
        CHECKS.due("block 0", "0,0", () -> Floors.place(x, 0));
        CHECKS.due("block 1", "7,6", () -> Floors.place(x, 1));
        CHECKS.due("block 2", "10,0", () -> Floors.place(x, 2));
        CHECKS.due("area", 11 * 15, () -> x.pair(0));
    }

    static void promise3_xOf0IsTaken() {
        SliceBlocks x = three();
        CHECKS.due("fix(0, 0, 3)", true, () -> x.fix(0, 0, 3));
        CHECKS.due("its place", "0,3", () -> Floors.place(x, 0));
    }

    static void promise3_xBelow0IsRefused() {
        refusedForItsPlace(-1, 3);
    }

    static void promise3_xOf20000IsTaken() {
        SliceBlocks x = three();
        CHECKS.due("fix(0, 20000, 3)", true, () -> x.fix(0, 20000, 3));
        CHECKS.due("its place", "20000,3", () -> Floors.place(x, 0));
    }

    static void promise3_xOf20001IsRefused() {
        refusedForItsPlace(20001, 3);
    }

    static void promise3_yOf0IsTaken() {
        SliceBlocks x = three();
        CHECKS.due("fix(0, 3, 0)", true, () -> x.fix(0, 3, 0));
        CHECKS.due("its place", "3,0", () -> Floors.place(x, 0));
    }

    static void promise3_yBelow0IsRefused() {
        refusedForItsPlace(3, -1);
    }

    static void promise3_yOf20000IsTaken() {
        SliceBlocks x = three();
        CHECKS.due("fix(0, 3, 20000)", true, () -> x.fix(0, 3, 20000));
        CHECKS.due("its place", "3,20000", () -> Floors.place(x, 0));
    }

    static void promise3_yOf20001IsRefused() {
        refusedForItsPlace(3, 20001);
    }

    static void promise3_theFarthestCornerIsTaken() {
        SliceBlocks x = three();
        CHECKS.due("fix(2, 20000, 20000)", true, () -> x.fix(2, 20000, 20000));
        CHECKS.due("its place", "20000,20000", () -> Floors.place(x, 2));
    }

    /** The lower half of these numbers, as an int, would be a place. */
    static void promise3_aPlaceBeyondAnIntIsRefused() {
        refusedForItsPlace(1L << 32, 3);
        refusedForItsPlace(3, 1L << 32);
        refusedForItsPlace(Long.MIN_VALUE, 3);
        refusedForItsPlace(3, Long.MIN_VALUE);
        refusedForItsPlace(Long.MAX_VALUE, 3);
        refusedForItsPlace(3, Long.MAX_VALUE);
    }

    static void promise3_twoWrongPlacesAreRefused() {
        refusedForItsPlace(-1, 20001);
        refusedForItsPlace(20001, -1);
    }

    private static void refusedForItsPlace(long atX, long atY) {
        SliceBlocks x = three();
        for (int block = 0; block < 3; block++) {
            int number = block;
            CHECKS.noArgument("fix(" + block + ", " + atX + ", " + atY + ")", () -> x.fix(number, atX, atY));
        }
        CHECKS.due("block 2", "8,0", () -> Floors.place(x, 2));
    }

    static void promise3_xWhereItWouldBeIsAPlan() {
        SliceBlocks x = three();
        CHECKS.due("fix(1, 5, 0)", true, () -> x.fix(1, 5, 0));
        CHECKS.due("its place", "5,0", () -> Floors.place(x, 1));
    }

    static void promise3_xOneLessThanItWouldBeIsNone() {
        SliceBlocks x = three();
        CHECKS.due("fix(1, 4, 0)", false, () -> x.fix(1, 4, 0));
        CHECKS.due("fix(1, 4, 20000)", false, () -> x.fix(1, 4, 20000));
        CHECKS.due("its place", "5,0", () -> Floors.place(x, 1));
    }

    static void promise3_yWhereItWouldBeIsAPlan() {
        SliceBlocks x = Floors.pile();
        CHECKS.due("fix(1, 0, 4)", true, () -> x.fix(1, 0, 4));
        CHECKS.due("its place", "0,4", () -> Floors.place(x, 1));
    }

    static void promise3_yOneLessThanItWouldBeIsNone() {
        SliceBlocks x = Floors.pile();
        CHECKS.due("fix(1, 0, 3)", false, () -> x.fix(1, 0, 3));
        CHECKS.due("fix(1, 20000, 3)", false, () -> x.fix(1, 20000, 3));
        CHECKS.due("its place", "0,4", () -> Floors.place(x, 1));
    }

    static void promise3_thoseRightOfItMove() {
        SliceBlocks x = three();
        CHECKS.due("fix(0, 7, 1)", true, () -> x.fix(0, 7, 1));
        CHECKS.due("block 1", "12,0", () -> Floors.place(x, 1));
        CHECKS.due("block 2", "15,0", () -> Floors.place(x, 2));
    }

    static void promise3_thoseAboveItMove() {
        SliceBlocks x = Floors.pile();
        CHECKS.due("fix(0, 2, 9)", true, () -> x.fix(0, 2, 9));
        CHECKS.due("block 1", "0,13", () -> Floors.place(x, 1));
        CHECKS.due("area", 3 * 16, () -> x.pair(0));
    }

    static void promise3_asFarRightAsAnotherFixedOneLets() {
        SliceBlocks x = three();
        x.fix(2, 20, 0);
        CHECKS.due("up to it, with one between", true, () -> x.fix(0, 12, 0));
        CHECKS.due("block 1", "17,0", () -> Floors.place(x, 1));
        CHECKS.due("one more", false, () -> x.fix(0, 13, 0));
        CHECKS.due("block 0", "12,0", () -> Floors.place(x, 0));
        CHECKS.due("block 1 stays", "17,0", () -> Floors.place(x, 1));
        CHECKS.due("block 2 stays", "20,0", () -> Floors.place(x, 2));
    }

    static void promise3_asFarUpAsAnotherFixedOneLets() {
        SliceBlocks x = Floors.pile();
        x.fix(1, 0, 10);
        CHECKS.due("up to it", true, () -> x.fix(0, 0, 6));
        CHECKS.due("one more", false, () -> x.fix(0, 0, 7));
        CHECKS.due("block 0", "0,6", () -> Floors.place(x, 0));
        CHECKS.due("block 1", "0,10", () -> Floors.place(x, 1));
    }

    static void promise3_aFreeOneStaysFreeIfItIsNone() {
        Twins twins = new Twins(CHECKS, () -> Floors.turningBy(5, 5, 2, 3, 9, 1, 4));
        twins.leavesNothing("fix(1, 4, 0)", false, x -> x.fix(1, 4, 0));
        twins.leavesNothing("fix(2, 0, 0)", false, x -> x.fix(2, 0, 0));
    }

    /** Left where it is not fixed, it can still be fixed elsewhere, and be turned by a try. */
    static void promise3_aFreeOneStillTurnsIfItIsNone() {
        SliceBlocks x = Floors.turningBy(Chance.seedFor("2: 2 1 *"), 9, 1, 1, 9);
        CHECKS.due("fix(1, 8, 0)", false, () -> x.fix(1, 8, 0));
        CHECKS.due("area", 18, () -> x.pair(1));
        CHECKS.due("turned", true, () -> x.turned(1));
    }

    static void promise3_aFixedOneStaysThereIfItIsNone() {
        Twins twins = new Twins(CHECKS, Promise03FixTest::threeWithTwoFixed);
        twins.leavesNothing("fix(1, 4, 7)", false, x -> x.fix(1, 4, 7));
        twins.leavesNothing("fix(1, 30, 2)", false, x -> x.fix(1, 30, 2));
    }

    private static SliceBlocks threeWithTwoFixed() {
        SliceBlocks x = Floors.turningBy(5, 5, 2, 3, 9, 1, 4, 2, 2);
        x.fix(1, 11, 3);
        x.fix(2, 30, 1);
        return x;
    }

    static void promise3_aFixedOneCanBeFixedElsewhere() {
        SliceBlocks x = three();
        CHECKS.due("fixed", true, () -> x.fix(1, 20000, 20000));
        CHECKS.due("nearer", true, () -> x.fix(1, 5, 7));
        CHECKS.due("its place", "5,7", () -> Floors.place(x, 1));
        CHECKS.due("the next one's", "8,0", () -> Floors.place(x, 2));
        CHECKS.due("area", 9 * 16, () -> x.pair(0));
        CHECKS.due("farther", true, () -> x.fix(1, 6, 8));
        CHECKS.due("its place", "6,8", () -> Floors.place(x, 1));
    }

    static void promise3_aFixedOneCanBeFixedThereAgain() {
        SliceBlocks x = three();
        CHECKS.due("fixed", true, () -> x.fix(1, 9, 9));
        CHECKS.due("again", true, () -> x.fix(1, 9, 9));
        CHECKS.due("its place", "9,9", () -> Floors.place(x, 1));
    }

    static void promise3_theLastBlockIsTakenAndTheNextNumberIsRefused() {
        SliceBlocks x = three();
        CHECKS.due("fix(2)", true, () -> x.fix(2, 8, 0));
        CHECKS.noIndex("fix(3)", () -> x.fix(3, 8, 0));
    }

    static void promise3_theFirstBlockIsTakenAndNumbersBelow0AreRefused() {
        SliceBlocks x = three();
        CHECKS.due("fix(0)", true, () -> x.fix(0, 0, 0));
        CHECKS.noIndex("fix(-1)", () -> x.fix(-1, 0, 0));
        CHECKS.noIndex("fix(least int)", () -> x.fix(Integer.MIN_VALUE, 0, 0));
    }

    static void promise3_numbersFarBeyondAreRefused() {
        SliceBlocks x = three();
        for (int wrong : new int[] {16, 31, 39, 40, 1000, Integer.MAX_VALUE}) {
            CHECKS.noIndex("fix(" + wrong + ")", () -> x.fix(wrong, 0, 0));
        }
    }

    static void promise3_aSliceIsNoBlock() {
        SliceBlocks x = three();
        x.slice(0, 1, true);
        CHECKS.noIndex("fix of a slice", () -> x.fix(3, 8, 0));
        CHECKS.due("fix of a block in a slice", true, () -> x.fix(1, 5, 0));
    }

    static void promise3_noBlockComesBeforeAWrongPlace() {
        SliceBlocks x = three();
        x.slice(0, 1, true);
        CHECKS.noIndex("no thing", () -> x.fix(4, -1, 20001));
        CHECKS.noIndex("below 0", () -> x.fix(-1, 20001, 0));
        CHECKS.noIndex("a slice", () -> x.fix(3, 0, -1));
    }

    static void promise3_withoutBlocksThereIsNone() {
        SliceBlocks x = new SliceBlocks(1);
        CHECKS.noIndex("fix(0)", () -> x.fix(0, 0, 0));
        CHECKS.noIndex("fix(0) at a wrong place", () -> x.fix(0, -1, 0));
    }

    static void promise3_all16CanBeFixed() {
        SliceBlocks x = Floors.full();
        for (int block = 0; block < Floors.MOST_BLOCKS; block++) {
            int number = block;
            CHECKS.due("fix(" + block + ")", true, () -> x.fix(number, x.at(number, 0), 0));
        }
        int area = x.pair(0);
        CHECKS.due("no try changes a plan of fixed ones", area, () -> x.pair(2000));
        for (int block = 0; block < Floors.MOST_BLOCKS; block++) {
            int number = block;
            CHECKS.due("block " + block, block * (block + 1) / 2 + ",0", () -> Floors.place(x, number));
            CHECKS.due("block " + block + " is turned", false, () -> x.turned(number));
        }
    }

    static void promise3_noBlockChangesNothing() {
        Twins twins = new Twins(CHECKS, Promise03FixTest::threeWithTwoFixed);
        twins.noIndex("fix(4, 1, 1)", x -> x.fix(4, 1, 1));
        twins.noIndex("fix(-1, 1, 1)", x -> x.fix(-1, 1, 1));
        new Twins(CHECKS, () -> new SliceBlocks(5)).noIndex("fix(0, 1, 1)", x -> x.fix(0, 1, 1));
        new Twins(CHECKS, Floors::fullOfAll).noIndex("fix(30, 1, 1)", x -> x.fix(30, 1, 1));
    }

    static void promise3_aWrongPlaceChangesNothing() {
        Twins twins = new Twins(CHECKS, Promise03FixTest::threeWithTwoFixed);
        twins.noArgument("fix(0, -1, 0)", x -> x.fix(0, -1, 0));
        twins.noArgument("fix(1, 12, 20001)", x -> x.fix(1, 12, 20001));
        twins.noArgument("fix(3, 20001, 12)", x -> x.fix(3, 20001, 12));
    }

    static void promise3_sidesCountAsTurned() {
        SliceBlocks x = Floors.turnedFirst();
        CHECKS.due("one less than the turned one is wide", false, () -> x.fix(1, 8, 0));
        CHECKS.due("as much as it is wide", true, () -> x.fix(1, 9, 0));
    }

    /** With 100 x 9 behind, it would be better turned back; but it is fixed. */
    static void promise3_aTurnedOneStaysTurned() {
        SliceBlocks x = Floors.turnedFirst("3: 2 0 *");
        CHECKS.due("fix(0, 0, 0)", true, () -> x.fix(0, 0, 0));
        CHECKS.due("turned", true, () -> x.turned(0));
        x.block(100, 9, false);
        CHECKS.due("area", 118 * 9, () -> x.pair(1));
        CHECKS.due("turned still", true, () -> x.turned(0));
    }

    static void promise3_shapesOfAFixedOneStay() {
        SliceBlocks x = Floors.turningBy(1, 7, 3);
        x.fix(0, 5, 5);
        CHECKS.due("shapes", "3x7 7x3", () -> Floors.shapesOf(x, 0));
    }

    static void promise3_fixDrawsNothing() {
        SliceBlocks x = Floors.stiffBy(Floors.seedOfPile(), 1, 4, 1, 3);
        CHECKS.due("taken", true, () -> x.fix(0, 0, 0));
        CHECKS.due("none", false, () -> x.fix(1, 0, 0));
        CHECKS.due("area of a pile", 7, () -> x.pair(1));
    }

    static void promise3_aNewObjectsBlockIsNotFixed() {
        SliceBlocks x = Floors.stiffBy(Chance.seedFor("3: 1 0 1"), 2, 1, 3, 1, 4, 1);
        x.net(0, 2);
        x.pair(1);
        CHECKS.due("a free block moves in a try", "3,0", () -> Floors.place(x, 0));
    }
}
