import java.util.Arrays;

/** What the terms say of numbers and draws, whatever the call. */
public final class TermsTest {
    private static final Checks CHECKS = new Checks("TermsTest");
    private static final int MOST_CALLS = 512;

    public static void main(String[] args) {
        CHECKS.runCases(TermsTest.class);
    }

    /** The helper of the other tests, against numbers worked out elsewhere. */
    static void terms_drawsOfTheHelperAreThoseOfTheDocument() {
        CHECKS.due("seed 0", "[2, 0, 1]", () -> Arrays.toString(Chance.draws(0, 3, 2, 2)));
        CHECKS.due("seed 0, highest 31 bits", "[167951807, 218396424, 1299921937]",
            () -> Arrays.toString(Chance.draws(0, Integer.MAX_VALUE, Integer.MAX_VALUE, Integer.MAX_VALUE)));
        CHECKS.due("seed -1", "[1, 7, 5]", () -> Arrays.toString(Chance.draws(-1, 3, 16, 16)));
        CHECKS.due("the least seed", "[0, 8, 1]", () -> Arrays.toString(Chance.draws(Long.MIN_VALUE, 3, 16, 16)));
    }

    static void terms_the512thCallIsAnswered() {
        SliceBlocks x = Floors.fullOfAll();
        int made = Floors.MOST_THINGS_THERE_CAN_BE + Floors.MOST_NETS;
        for (int i = made; i < MOST_CALLS - 1; i++) {
            x.wire();
        }
        CHECKS.due("the last call", 136 * 1000, () -> x.pair(0));
    }

    /** "IndexOutOfBoundsException: there is no such thing, block or shape": itself, no kind of it. */
    static void terms_exceptionsAreExactlyThoseNamed() {
        SliceBlocks x = Floors.stiff(2, 3);
        CHECKS.due("thing", "class java.lang.IndexOutOfBoundsException", () -> thrownBy(() -> x.least(1)));
        CHECKS.due("block", "class java.lang.IndexOutOfBoundsException", () -> thrownBy(() -> x.at(-1, 0)));
        CHECKS.due("shape", "class java.lang.IndexOutOfBoundsException", () -> thrownBy(() -> x.shape(0, 1, 0)));
        CHECKS.due("same", "class java.lang.IllegalArgumentException", () -> thrownBy(() -> x.net(0, 0)));
    }

    private static Object thrownBy(Checks.Call call) {
        try {
            return call.answer();
        } catch (RuntimeException thrown) {
            return thrown.getClass();
        }
    }

    /** Blocks and slices share numbers; the highest that a run can reach is 30, not 39. */
    static void terms_numbersAreInTheOrderInWhichThingsAreMade() {
        SliceBlocks x = new SliceBlocks(1);
        CHECKS.due("block", 0, () -> x.block(1, 2, true));
        CHECKS.due("block", 1, () -> x.block(1, 2, true));
        CHECKS.due("slice", 2, () -> x.slice(0, 1, true));
        CHECKS.due("block", 3, () -> x.block(1, 2, true));
        CHECKS.due("slice", 4, () -> x.slice(3, 2, true));
        CHECKS.due("block", 5, () -> x.block(1, 2, true));
    }

    static void terms_theHighestNumberThatCanBeReachedIs30() {
        SliceBlocks x = Floors.full();
        CHECKS.due("the last slice", 30, () -> Floors.sliceAll(x, Floors.MOST_BLOCKS, true));
        CHECKS.due("thing 30", true, () -> x.shapes(30) > 0);
        CHECKS.noIndex("thing 31", () -> x.shapes(31));
        CHECKS.noState("no block more", () -> x.block(1, 1, true));
        CHECKS.noArgument("no slice more", () -> x.slice(30, 30, true));
    }
}
