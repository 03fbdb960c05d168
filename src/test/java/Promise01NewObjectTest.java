/** Promise 1: a new object has no things, and the state of its draws is the seed. */
public final class Promise01NewObjectTest {
    private static final Checks CHECKS = new Checks("Promise01NewObjectTest");

    public static void main(String[] args) {
        CHECKS.runCases(Promise01NewObjectTest.class);
    }

    static void promise1_thereIsNoThing0() {
        noThing(new SliceBlocks(1), 0);
    }

    static void promise1_noneIsNoThing() {
        noThing(new SliceBlocks(1), SliceBlocks.NONE);
    }

    static void promise1_theLastNumberOfTheTermsIsNoThing() {
        noThing(new SliceBlocks(1), 39);
    }

    private static void noThing(SliceBlocks x, int number) {
        CHECKS.noIndex("shapes", () -> x.shapes(number));
        CHECKS.noIndex("shape", () -> x.shape(number, 0, 0));
        CHECKS.noIndex("least", () -> x.least(number));
        CHECKS.noIndex("slice with itself", () -> x.slice(number, number, true));
        CHECKS.noIndex("slice with the next", () -> x.slice(number, number + 1, false));
        CHECKS.noIndex("fix", () -> x.fix(number, 0, 0));
        CHECKS.noIndex("net with itself", () -> x.net(number, number));
        CHECKS.noIndex("net with the next", () -> x.net(number, number + 1));
        CHECKS.noIndex("at", () -> x.at(number, 0));
        CHECKS.noIndex("turned", () -> x.turned(number));
        CHECKS.noIndex("pin", () -> x.pin(number, 0, 0));
    }

    static void promise1_thePlanOfNothingHasNoAreaAndNoWire() {
        SliceBlocks x = new SliceBlocks(1);
        CHECKS.due("pair(0)", 0, () -> x.pair(0));
        CHECKS.due("pair(2000)", 0, () -> x.pair(2000));
        CHECKS.due("wire", 0, () -> x.wire());
        CHECKS.due("overlap", false, () -> x.overlap());
        CHECKS.due("outline", true, () -> x.outline(1, 1));
    }

    static void promise1_wrongValuesAreRefusedByAnEmptyObjectToo() {
        SliceBlocks x = new SliceBlocks(1);
        CHECKS.noArgument("block", () -> x.block(0, 1, true));
        CHECKS.noArgument("pair", () -> x.pair(-1));
        CHECKS.noArgument("outline", () -> x.outline(1, 0));
    }

    static void promise1_theFirstThingHasNumber0() {
        for (long seed : new long[] {0, -1, Long.MIN_VALUE, Long.MAX_VALUE}) {
            CHECKS.due("seed " + seed, 0, () -> new SliceBlocks(seed).block(1, 1, true));
        }
    }

    /** Draws of 3, 2 and 2: 2, 0 and 1. */
    static void promise1_theSeed0DrawsATurnOfTheFirst() {
        SliceBlocks x = new SliceBlocks(0);
        x.block(1, 9, true);
        x.block(9, 1, true);
        CHECKS.due("area", 18, () -> x.pair(1));
        CHECKS.due("turned(0)", true, () -> x.turned(0));
        CHECKS.due("turned(1)", false, () -> x.turned(1));
    }

    /** Draws of 3, 2 and 2: 2, 1 and 0. */
    static void promise1_theSeed1DrawsATurnOfTheSecond() {
        SliceBlocks x = new SliceBlocks(1);
        x.block(9, 1, true);
        x.block(1, 9, true);
        CHECKS.due("area", 18, () -> x.pair(1));
        CHECKS.due("turned(0)", false, () -> x.turned(0));
        CHECKS.due("turned(1)", true, () -> x.turned(1));
    }

    /** Draws of 3, 3 and 3: 1, 2 and 1. */
    static void promise1_theSeedBelow0DrawsAnExchangeInBothOrders() {
        SliceBlocks x = Floors.stiffBy(-1, 2, 1, 3, 1, 4, 1);
        x.net(0, 2);
        CHECKS.due("area", 9, () -> x.pair(1));
        CHECKS.due("wire", 6, () -> x.wire());
        CHECKS.due("block 2", "2,0", () -> Floors.place(x, 2));
        CHECKS.due("block 1", "6,0", () -> Floors.place(x, 1));
    }

    /** Draws of 3, 3 and 3: 0, 1 and 0, for both. */
    static void promise1_theLeastAndTheGreatestSeedDrawAnExchangeInTheFirstOrder() {
        for (long seed : new long[] {Long.MIN_VALUE, Long.MAX_VALUE}) {
            SliceBlocks x = Floors.stiffBy(seed, 1, 4, 1, 3, 1, 7);
            CHECKS.due("area of seed " + seed, 14, () -> x.pair(1));
            CHECKS.due("block 0", "0,0", () -> Floors.place(x, 0));
            CHECKS.due("block 1", "0,4", () -> Floors.place(x, 1));
            CHECKS.due("block 2", "1,0", () -> Floors.place(x, 2));
        }
    }

    /** All 64 bits of a seed count: seed 0 with a high bit more draws something else. */
    static void promise1_theWholeSeedIsTheState() {
        for (int bit = 0; bit < 64; bit++) {
            long seed = 1L << bit;
            SliceBlocks x = Floors.stiffBy(seed, 1, 4, 1, 3);
            int[] drawn = Chance.draws(seed, 3, 2, 2);
            boolean isPile = drawn[0] == 0 && drawn[1] != drawn[2];
            CHECKS.due("area of seed " + seed, isPile ? 7 : 8, () -> x.pair(1));
        }
    }

    static void promise1_objectsShareNothing() {
        SliceBlocks full = Floors.fullOfAll();
        full.pair(100);
        SliceBlocks x = Floors.turningBy(0, 1, 9, 9, 1);
        SliceBlocks empty = new SliceBlocks(0);
        x.pair(1);
        noThing(empty, 0);
        CHECKS.due("wire of another object", 0, () -> empty.wire());
        CHECKS.due("block of another object", 0, () -> empty.block(1, 9, true));
        empty.block(9, 1, true);
        CHECKS.due("draws of another object", 18, () -> empty.pair(1));
        CHECKS.due("net of another object", 0, () -> empty.net(0, 1));
    }
}
