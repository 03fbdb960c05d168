/** Promise 13: wire. */
public final class Promise13WireTest {
    private static final Checks CHECKS = new Checks("Promise13WireTest");

    public static void main(String[] args) {
        CHECKS.runCases(Promise13WireTest.class);
    }

    static void promise13_withoutBlocksItIs0() {
        CHECKS.due("wire", 0, () -> new SliceBlocks(1).wire());
    }

    static void promise13_withoutNetsItIs0() {
        CHECKS.due("two blocks", 0, () -> Floors.stiff(5, 2, 3, 9).wire());
        CHECKS.due("sixteen", 0, () -> Floors.full().wire());
    }

    static void promise13_aRefusedNetIsNoWire() {
        SliceBlocks x = Floors.stiff(5, 2, 3, 9);
        CHECKS.noArgument("net(1, 1)", () -> x.net(1, 1));
        CHECKS.noIndex("net(0, 2)", () -> x.net(0, 2));
        CHECKS.due("wire", 0, () -> x.wire());
    }

    /** Middles in halves: 3,4 and 8,1. */
    static void promise13_bothDirectionsAreAdded() {
        SliceBlocks x = Floors.stiff(3, 4, 2, 1);
        x.net(0, 1);
        CHECKS.due("wire", 5 + 3, () -> x.wire());
    }

    /** Middles in halves: 1,1 and 3,2, so one and a half. */
    static void promise13_aHalfIsNotLost() {
        SliceBlocks x = Floors.stiff(1, 1, 1, 2);
        x.net(0, 1);
        CHECKS.due("wire", 3, () -> x.wire());
    }

    static void promise13_theLeastNetOfAll() {
        SliceBlocks x = Floors.stiff(1, 1, 1, 1);
        x.net(0, 1);
        CHECKS.due("wire", 2, () -> x.wire());
    }

    static void promise13_alongOneDirectionOnly() {
        SliceBlocks x = Floors.stiff(2, 4, 6, 4);
        x.net(0, 1);
        CHECKS.due("side by side", 8, () -> x.wire());
        SliceBlocks y = Floors.pile();
        y.net(0, 1);
        CHECKS.due("one above the other", 7, () -> y.wire());
    }

    static void promise13_itIsTheSameFromBothEnds() {
        SliceBlocks x = Floors.stiff(3, 4, 2, 1);
        x.net(1, 0);
        CHECKS.due("wire", 8, () -> x.wire());
        x.net(0, 1);
        CHECKS.due("with the other way", 16, () -> x.wire());
    }

    static void promise13_blocksBetweenDoNotCount() {
        SliceBlocks x = Floors.stiff(2, 2, 7, 9, 2, 2);
        x.net(0, 2);
        CHECKS.due("wire", 18, () -> x.wire());
    }

    /** In steps of 4 halves: 15 and 15, 28 and 28, and 24. */
    static void promise13_fortyNets() {
        SliceBlocks x = Floors.row(16, 2, 2);
        Floors.addAllNets(x);
        CHECKS.due("wire", 4 * (30 + 56 + 24), () -> x.wire());
    }

    /** Middles in halves: 3,4 and 40002,40001. */
    static void promise13_theFarthestPlaces() {
        SliceBlocks x = Floors.stiff(3, 4, 2, 1);
        Floors.addNets(x, 8);
        x.fix(1, 20000, 20000);
        CHECKS.due("wire", 8 * (39999 + 39997), () -> x.wire());
    }

    static void promise13_aFixThatIsNoneLeavesIt() {
        SliceBlocks x = Floors.stiff(3, 4, 2, 1);
        x.net(0, 1);
        CHECKS.due("fix", false, () -> x.fix(1, 2, 9));
        CHECKS.due("wire", 8, () -> x.wire());
    }

    /** 10 + 8 before: middles 1,9 and 11,1; then 9,1 and 27,1. */
    static void promise13_sidesCountAsTurned() {
        SliceBlocks x = new SliceBlocks(Chance.seedFor("2: 2 0 *"));
        x.block(1, 9, true);
        x.block(9, 1, false);
        x.net(0, 1);
        CHECKS.due("wire", 18, () -> x.wire());
        x.pair(1);
        CHECKS.due("turned", true, () -> x.turned(0));
        CHECKS.due("wire then", 18, () -> x.wire());
        x.net(0, 1);
        CHECKS.due("of two nets", 36, () -> x.wire());
    }

    /** The pile at hand would have another wire than the row that is kept. */
    static void promise13_itIsThatOfThePlanKept() {
        SliceBlocks x = Floors.stiffBy(Chance.seedFor("3: 0 0 1", "3: 0 0 0"), 1, 6, 3, 2, 2, 1);
        x.net(0, 1);
        CHECKS.due("before", 8, () -> x.wire());
        x.pair(2);
        CHECKS.due("behind tries", 8, () -> x.wire());
    }

    static void promise13_anAnsweredCallChangesNothing() {
        Twins twins = new Twins(CHECKS, Promise13WireTest::twoWithANet);
        twins.leavesNothing("wire()", 8, x -> x.wire());
    }

    private static SliceBlocks twoWithANet() {
        SliceBlocks x = Floors.turningBy(5, 3, 4, 2, 1);
        x.net(0, 1);
        return x;
    }
}
