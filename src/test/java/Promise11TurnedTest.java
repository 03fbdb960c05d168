/** Promise 11: turned. */
public final class Promise11TurnedTest {
    private static final Checks CHECKS = new Checks("Promise11TurnedTest");

    public static void main(String[] args) {
        CHECKS.runCases(Promise11TurnedTest.class);
    }

    static void promise11_aNewBlockIsNotTurned() {
        SliceBlocks x = new SliceBlocks(1);
        x.block(1, 9, true);
        x.block(9, 1, false);
        CHECKS.due("one that may be", false, () -> x.turned(0));
        CHECKS.due("one that may not", false, () -> x.turned(1));
    }

    static void promise11_aBlockTurnedByATryIsTurned() {
        SliceBlocks x = Floors.turnedFirst();
        CHECKS.due("turned(0)", true, () -> x.turned(0));
        CHECKS.due("turned(1)", false, () -> x.turned(1));
    }

    static void promise11_aBlockTurnedBackIsNotTurned() {
        SliceBlocks x = Floors.turnedFirst("3: 2 0 *");
        x.block(100, 9, false);
        x.pair(1);
        CHECKS.due("turned(0)", false, () -> x.turned(0));
    }

    /** Turned it is as large: it is at hand, and never kept. */
    static void promise11_aBlockTurnedInThePlanAtHandOnlyIsNotTurned() {
        SliceBlocks x = Floors.turningBy(Chance.seedFor("1: 2 * *"), 3, 8);
        x.pair(1);
        CHECKS.due("turned(0)", false, () -> x.turned(0));
    }

    /** Turned, a square is the same; with the pile of the second try it is kept all the same. */
    static void promise11_aSquareIsTurnedToo() {
        SliceBlocks x = Floors.turningBy(Chance.seedFor("2: 2 0 *", "2: 0 0 1"), 1, 1, 1, 4);
        CHECKS.due("area", 5, () -> x.pair(2));
        CHECKS.due("turned(0)", true, () -> x.turned(0));
        CHECKS.due("turned(1)", false, () -> x.turned(1));
    }

    static void promise11_aBlockTurnedTwiceInOneCallIsNotTurned() {
        SliceBlocks x = Floors.turningBy(Chance.seedFor("2: 2 0 *", "2: 2 0 *", "2: 0 0 1"), 1, 1, 1, 4);
        CHECKS.due("area", 5, () -> x.pair(3));
        CHECKS.due("turned(0)", false, () -> x.turned(0));
    }

    static void promise11_aBlockThatMayNotBeTurnedNeverIs() {
        for (long seed = 0; seed < 10; seed++) {
            SliceBlocks x = Floors.stiffBy(seed, 1, 9, 9, 1, 2, 7);
            x.pair(300);
            for (int block = 0; block < 3; block++) {
                int number = block;
                CHECKS.due("turned(" + block + ")", false, () -> x.turned(number));
            }
        }
    }

    static void promise11_aFixedBlockStaysAsItIs() {
        for (long seed = 0; seed < 10; seed++) {
            SliceBlocks x = Floors.turningBy(seed, 1, 9, 9, 1, 2, 7);
            x.fix(0, 0, 0);
            x.pair(300);
            CHECKS.due("turned(0)", false, () -> x.turned(0));
        }
    }

    static void promise11_theLastBlockIsTakenAndTheNextNumberIsRefused() {
        SliceBlocks x = Floors.turnedFirst();
        CHECKS.due("turned(1)", false, () -> x.turned(1));
        CHECKS.noIndex("turned(2)", () -> x.turned(2));
    }

    static void promise11_theFirstBlockIsTakenAndNumbersBelow0AreRefused() {
        SliceBlocks x = Floors.turnedFirst();
        CHECKS.due("turned(0)", true, () -> x.turned(0));
        CHECKS.noIndex("turned(-1)", () -> x.turned(-1));
        CHECKS.noIndex("the least int", () -> x.turned(Integer.MIN_VALUE));
    }

    static void promise11_numbersFarBeyondAreRefused() {
        SliceBlocks x = Floors.full();
        CHECKS.due("turned(15)", false, () -> x.turned(15));
        for (int wrong : new int[] {16, 31, 39, 40, 1000, Integer.MAX_VALUE}) {
            CHECKS.noIndex("turned(" + wrong + ")", () -> x.turned(wrong));
        }
    }

    static void promise11_aSliceIsNoBlock() {
        SliceBlocks x = Floors.turnedFirst();
        x.slice(0, 1, true);
        x.block(1, 1, true);
        CHECKS.noIndex("turned(2)", () -> x.turned(2));
        CHECKS.due("a block in a slice", true, () -> x.turned(0));
        CHECKS.due("a block behind a slice", false, () -> x.turned(3));
    }

    static void promise11_withoutBlocksThereIsNone() {
        CHECKS.noIndex("turned(0)", () -> new SliceBlocks(1).turned(0));
    }

    static void promise11_aRefusedCallChangesNothing() {
        Twins twins = new Twins(CHECKS, Floors::turnedFirst);
        twins.noIndex("turned(2)", x -> x.turned(2));
        twins.noIndex("turned(-1)", x -> x.turned(-1));
    }

    static void promise11_anAnsweredCallChangesNothing() {
        new Twins(CHECKS, Floors::turnedFirst).leavesNothing("turned(0)", true, x -> x.turned(0));
    }
}
