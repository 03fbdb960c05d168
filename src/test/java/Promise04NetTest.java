/** Promise 4: net. */
public final class Promise04NetTest {
    private static final Checks CHECKS = new Checks("Promise04NetTest");

    public static void main(String[] args) {
        CHECKS.runCases(Promise04NetTest.class);
    }

    /** Block 0 has 8 nets: 3 to each of 1 and 2, 2 to 3; from either end. */
    private static SliceBlocks withAFullBlock() {
        SliceBlocks x = Floors.row(5, 2, 2);
        for (int i = 0; i < Floors.MOST_NETS_OF_A_BLOCK; i++) {
            int other = 1 + i % 3;
            x.net(i % 2 == 0 ? 0 : other, i % 2 == 0 ? other : 0);
        }
        return x;
    }

    private static SliceBlocks with40() {
        SliceBlocks x = Floors.full();
        Floors.addAllNets(x);
        return x;
    }

    static void promise4_aNetAnswersItsNumber() {
        SliceBlocks x = Floors.row(3, 2, 2);
        CHECKS.due("the first", 0, () -> x.net(0, 1));
        CHECKS.due("the second", 1, () -> x.net(2, 1));
        CHECKS.due("the third", 2, () -> x.net(2, 0));
    }

    static void promise4_twoBlocksMayHaveSeveralNets() {
        SliceBlocks x = Floors.row(2, 2, 2);
        for (int i = 0; i < Floors.MOST_NETS_OF_A_BLOCK; i++) {
            int number = i;
            CHECKS.due("net " + i, number, () -> x.net(number % 2, 1 - number % 2));
        }
        CHECKS.due("wire", 8 * 4, () -> x.wire());
    }

    static void promise4_numbersOfBlocksBehindASlice() {
        SliceBlocks x = Floors.stiff(2, 2, 2, 2);
        x.slice(0, 1, true);
        x.block(6, 2, false);
        CHECKS.due("net", 0, () -> x.net(3, 0));
        CHECKS.due("wire", 12, () -> x.wire());
    }

    static void promise4_the8thOfABlockIsTaken() {
        SliceBlocks x = Floors.row(3, 2, 2);
        for (int i = 0; i < 7; i++) {
            x.net(0, 1);
        }
        CHECKS.due("the 8th", 7, () -> x.net(0, 2));
        SliceBlocks y = Floors.row(3, 2, 2);
        for (int i = 0; i < 7; i++) {
            y.net(1, 0);
        }
        CHECKS.due("the 8th, from the other end", 7, () -> y.net(2, 0));
    }

    static void promise4_the9thOfTheFirstBlockIsRefused() {
        SliceBlocks x = withAFullBlock();
        for (int other = 1; other < 5; other++) {
            int to = other;
            CHECKS.noState("net(0, " + other + ")", () -> x.net(0, to));
        }
    }

    static void promise4_the9thOfTheSecondBlockIsRefused() {
        SliceBlocks x = withAFullBlock();
        for (int other = 1; other < 5; other++) {
            int from = other;
            CHECKS.noState("net(" + other + ", 0)", () -> x.net(from, 0));
        }
    }

    static void promise4_othersStillTakeNetsWhenOneHas8() {
        SliceBlocks x = withAFullBlock();
        CHECKS.due("net(1, 4)", 8, () -> x.net(1, 4));
        CHECKS.due("net(3, 2)", 9, () -> x.net(3, 2));
    }

    static void promise4_the40thIsTaken() {
        SliceBlocks x = Floors.full();
        int made = 0;
        for (int step = 1; made < Floors.MOST_NETS; step++) {
            for (int i = 0; i < Floors.MOST_BLOCKS && made < Floors.MOST_NETS; i++) {
                int from = i;
                int to = (i + step) % Floors.MOST_BLOCKS;
                CHECKS.due("net " + made, made, () -> x.net(from, to));
                made++;
            }
        }
    }

    static void promise4_the41stIsRefused() {
        SliceBlocks x = with40();
        CHECKS.noState("net(14, 15), that have less than 8", () -> x.net(14, 15));
        CHECKS.noState("net(15, 14)", () -> x.net(15, 14));
    }

    static void promise4_bothTheSameAreRefused() {
        SliceBlocks x = Floors.row(3, 2, 2);
        for (int block = 0; block < 3; block++) {
            int number = block;
            CHECKS.noArgument("net of " + block + " with itself", () -> x.net(number, number));
        }
    }

    static void promise4_theLastBlockIsTakenAndTheNextNumberIsRefused() {
        SliceBlocks x = Floors.row(3, 2, 2);
        CHECKS.due("net(2, 0)", 0, () -> x.net(2, 0));
        CHECKS.due("net(0, 2)", 1, () -> x.net(0, 2));
        CHECKS.noIndex("net(3, 0)", () -> x.net(3, 0));
        CHECKS.noIndex("net(0, 3)", () -> x.net(0, 3));
    }

    static void promise4_numbersBelow0AreRefused() {
        SliceBlocks x = Floors.row(3, 2, 2);
        for (int wrong : new int[] {-1, -40, Integer.MIN_VALUE}) {
            CHECKS.noIndex("net(" + wrong + ", 0)", () -> x.net(wrong, 0));
            CHECKS.noIndex("net(0, " + wrong + ")", () -> x.net(0, wrong));
        }
    }

    static void promise4_numbersFarBeyondAreRefused() {
        SliceBlocks x = Floors.row(3, 2, 2);
        for (int wrong : new int[] {16, 39, 40, 1000, Integer.MAX_VALUE}) {
            CHECKS.noIndex("net(" + wrong + ", 0)", () -> x.net(wrong, 0));
            CHECKS.noIndex("net(0, " + wrong + ")", () -> x.net(0, wrong));
        }
    }

    static void promise4_aSliceIsNoBlock() {
        SliceBlocks x = Floors.row(3, 2, 2);
        x.slice(0, 1, true);
        CHECKS.noIndex("net(3, 0)", () -> x.net(3, 0));
        CHECKS.noIndex("net(0, 3)", () -> x.net(0, 3));
        CHECKS.noIndex("net(3, 3)", () -> x.net(3, 3));
        CHECKS.due("blocks in a slice", 0, () -> x.net(0, 1));
    }

    static void promise4_noBlockComesBeforeAllElse() {
        SliceBlocks x = withAFullBlock();
        CHECKS.noIndex("one with 8 and none", () -> x.net(0, 5));
        CHECKS.noIndex("none and one with 8", () -> x.net(-1, 0));
        CHECKS.noIndex("none twice", () -> x.net(5, 5));
        SliceBlocks y = with40();
        CHECKS.noIndex("the 41st with none", () -> y.net(15, 16));
        CHECKS.noIndex("the 41st of none twice", () -> y.net(16, 16));
    }

    static void promise4_tooManyComesBeforeBothTheSame() {
        SliceBlocks x = withAFullBlock();
        CHECKS.noState("one with 8, with itself", () -> x.net(0, 0));
        CHECKS.noArgument("one with less, with itself", () -> x.net(1, 1));
        SliceBlocks y = with40();
        CHECKS.noState("the 41st of one with itself", () -> y.net(15, 15));
    }

    static void promise4_withoutBlocksThereIsNone() {
        SliceBlocks x = new SliceBlocks(1);
        CHECKS.noIndex("net(0, 1)", () -> x.net(0, 1));
        CHECKS.noIndex("net(0, 0)", () -> x.net(0, 0));
    }

    static void promise4_noBlockChangesNothing() {
        Twins twins = new Twins(CHECKS, Promise04NetTest::withAFullBlock);
        twins.noIndex("net(1, 5)", x -> x.net(1, 5));
        twins.noIndex("net(-1, 1)", x -> x.net(-1, 1));
        new Twins(CHECKS, () -> new SliceBlocks(5)).noIndex("net(0, 1)", x -> x.net(0, 1));
        new Twins(CHECKS, Floors::fullOfAll).noIndex("net(0, 30)", x -> x.net(0, 30));
    }

    static void promise4_tooManyChangesNothing() {
        Twins twins = new Twins(CHECKS, Promise04NetTest::withAFullBlock);
        twins.noState("net(0, 4)", x -> x.net(0, 4));
        twins.noState("net(4, 0)", x -> x.net(4, 0));
        new Twins(CHECKS, Promise04NetTest::with40).noState("net(14, 15)", x -> x.net(14, 15));
    }

    static void promise4_bothTheSameChangesNothing() {
        Twins twins = new Twins(CHECKS, Promise04NetTest::withAFullBlock);
        twins.noArgument("net(4, 4)", x -> x.net(4, 4));
        twins.noArgument("net(1, 1)", x -> x.net(1, 1));
    }

    static void promise4_aNetLeavesThePlanAndDrawsNothing() {
        SliceBlocks x = Floors.stiffBy(Floors.seedOfPile(), 1, 4, 1, 3);
        x.net(0, 1);
        CHECKS.due("block 1", "1,0", () -> Floors.place(x, 1));
        CHECKS.due("area of a pile", 7, () -> x.pair(1));
    }
}
