/** Promise 14: pin. Pins of a block are told as left|right|below|above. */
public final class Promise14PinTest {
    private static final Checks CHECKS = new Checks("Promise14PinTest");

    public static void main(String[] args) {
        CHECKS.runCases(Promise14PinTest.class);
    }

    private static void duePins(SliceBlocks x, int block, String want) {
        CHECKS.due("pins of " + block, want, () -> Floors.pinsOf(x, block));
    }

    private static SliceBlocks twoWithANet() {
        SliceBlocks x = Floors.stiff(10, 10, 10, 10);
        x.net(0, 1);
        return x;
    }

    static void promise14_withoutNetsThereIsNoneAnywhere() {
        SliceBlocks x = Floors.stiff(10, 10, 10, 10);
        for (int i = 0; i < 16; i++) {
            int block = i / 8;
            int side = i / 2 % 4;
            int k = i % 2;
            CHECKS.due("pin(" + block + ", " + side + ", " + k + ")", SliceBlocks.NONE, () -> x.pin(block, side, k));
        }
    }

    static void promise14_aBlockWithoutNetsHasNoneBesideOthers() {
        SliceBlocks x = Floors.stiff(10, 10, 10, 10, 10, 10);
        x.net(0, 2);
        duePins(x, 1, "|||");
        duePins(x, 0, "|0||");
        duePins(x, 2, "0|||");
    }

    static void promise14_noneIsMinus1() {
        CHECKS.due("NONE", -1, () -> twoWithANet().pin(0, 0, 0));
    }

    static void promise14_k0And1AreTaken() {
        SliceBlocks x = twoWithANet();
        CHECKS.due("k 0", 0, () -> x.pin(0, 1, 0));
        CHECKS.due("k 1", SliceBlocks.NONE, () -> x.pin(0, 1, 1));
        x.net(0, 1);
        CHECKS.due("k 1 of two", 1, () -> x.pin(0, 1, 1));
    }

    static void promise14_k2IsRefused() {
        SliceBlocks x = twoWithANet();
        for (int wrong : new int[] {2, 3, 8, Integer.MAX_VALUE}) {
            CHECKS.noIndex("k " + wrong, () -> x.pin(0, 1, wrong));
        }
    }

    static void promise14_kBelow0IsRefused() {
        SliceBlocks x = twoWithANet();
        CHECKS.noIndex("k -1", () -> x.pin(0, 1, -1));
        CHECKS.noIndex("the least int", () -> x.pin(0, 1, Integer.MIN_VALUE));
    }

    static void promise14_sides0To3AreTaken() {
        SliceBlocks x = Floors.stiff(10, 10, 10, 10);
        Floors.addNets(x, 8);
        CHECKS.due("left", 0, () -> x.pin(0, 0, 0));
        CHECKS.due("right", 2, () -> x.pin(0, 1, 0));
        CHECKS.due("below", 4, () -> x.pin(0, 2, 0));
        CHECKS.due("above", 6, () -> x.pin(0, 3, 0));
    }

    static void promise14_side4IsRefused() {
        SliceBlocks x = twoWithANet();
        for (int wrong : new int[] {4, 5, 1000, Integer.MAX_VALUE}) {
            CHECKS.noIndex("side " + wrong, () -> x.pin(0, wrong, 0));
        }
    }

    static void promise14_sidesBelow0AreRefused() {
        SliceBlocks x = twoWithANet();
        CHECKS.noIndex("side -1", () -> x.pin(0, -1, 0));
        CHECKS.noIndex("the least int", () -> x.pin(0, Integer.MIN_VALUE, 0));
    }

    static void promise14_theLastBlockIsTakenAndTheNextNumberIsRefused() {
        SliceBlocks x = twoWithANet();
        CHECKS.due("pin(1, 0, 0)", 0, () -> x.pin(1, 0, 0));
        CHECKS.noIndex("pin(2, 0, 0)", () -> x.pin(2, 0, 0));
    }

    static void promise14_theFirstBlockIsTakenAndNumbersBelow0AreRefused() {
        SliceBlocks x = twoWithANet();
        CHECKS.due("pin(0, 1, 0)", 0, () -> x.pin(0, 1, 0));
        CHECKS.noIndex("pin(-1, 1, 0)", () -> x.pin(-1, 1, 0));
        CHECKS.noIndex("the least int", () -> x.pin(Integer.MIN_VALUE, 1, 0));
    }

    static void promise14_numbersFarBeyondAreRefused() {
        SliceBlocks x = Floors.full();
        CHECKS.due("pin(15, 0, 0)", SliceBlocks.NONE, () -> x.pin(15, 0, 0));
        for (int wrong : new int[] {16, 31, 39, 40, 1000, Integer.MAX_VALUE}) {
            CHECKS.noIndex("pin(" + wrong + ", 0, 0)", () -> x.pin(wrong, 0, 0));
        }
    }

    static void promise14_aSliceIsNoBlock() {
        SliceBlocks x = twoWithANet();
        x.slice(0, 1, true);
        x.block(10, 10, true);
        CHECKS.noIndex("pin(2, 0, 0)", () -> x.pin(2, 0, 0));
        x.net(3, 1);
        duePins(x, 3, "1|||");
        duePins(x, 1, "0|1||");
    }

    static void promise14_severalWrongNumbersAreRefused() {
        SliceBlocks x = twoWithANet();
        CHECKS.noIndex("all", () -> x.pin(2, 4, 2));
        CHECKS.noIndex("side and k", () -> x.pin(0, -1, -1));
    }

    static void promise14_withoutBlocksThereIsNone() {
        CHECKS.noIndex("pin(0, 0, 0)", () -> new SliceBlocks(1).pin(0, 0, 0));
    }

    static void promise14_theNearestSideOfAll() {
        SliceBlocks x = Floors.stiff(2, 10, 2, 10);
        x.net(0, 1);
        duePins(x, 0, "|0||");
        duePins(x, 1, "0|||");
        x.fix(1, 2, 500);
        duePins(x, 0, "|||0");
        duePins(x, 1, "||0|");
    }

    /** From 0 the right side costs 10 halves, each other one 30; the least nets have the least side. */
    static void promise14_from1To8Nets() {
        SliceBlocks x = Floors.stiff(10, 10, 10, 10);
        String[] want = {
            "|0||", "|0,1||", "0|1,2||", "0,1|2,3||", "0,1|2,3|4|", "0,1|2,3|4,5|", "0,1|2,3|4,5|6", "0,1|2,3|4,5|6,7",
        };
        for (int i = 0; i < want.length; i++) {
            x.net(i % 2, 1 - i % 2);
            duePins(x, 0, want[i]);
        }
        CHECKS.noState("the 9th", () -> x.net(0, 1));
        duePins(x, 0, want[7]);
    }

    /**
     * In halves, from 0 (10 x 2) to 1: left 38, right 18, below 30, above 26; from 1 (10 x 10 at
     * 10) to 0: left 18, right 38, below 22, above 38.
     */
    static void promise14_aThirdNetTakesTheNextBestSide() {
        SliceBlocks x = Floors.stiff(10, 2, 10, 10);
        Floors.addNets(x, 2);
        duePins(x, 0, "|0,1||");
        duePins(x, 1, "0,1|||");
        Floors.addNets(x, 1);
        duePins(x, 0, "|0,1||2");
        duePins(x, 1, "0,1||2|");
        Floors.addNets(x, 2);
        duePins(x, 0, "|0,1|2|3,4");
        duePins(x, 1, "0,1|2|3,4|");
        Floors.addNets(x, 2);
        duePins(x, 0, "0|1,2|3,4|5,6");
        duePins(x, 1, "0,1|2,3|4,5|6");
    }

    /** Nets by turns to 2 and 1, all of which save 20 at the right. */
    static void promise14_ofSeveralBestWaysTheLeastSideForTheLeastNet() {
        SliceBlocks x = Floors.stiff(10, 10, 10, 10, 10, 10);
        x.net(0, 2);
        x.net(0, 1);
        x.net(0, 2);
        x.net(0, 1);
        duePins(x, 0, "0,1|2,3||");
    }

    /** To 1, up and right, the right and the upper side cost 30 each, left and below 50. */
    static void promise14_ofTwoNearestSidesTheLeast() {
        SliceBlocks x = Floors.stiff(10, 10, 10, 10);
        x.fix(1, 10, 10);
        x.net(0, 1);
        duePins(x, 0, "|0||");
        duePins(x, 1, "0|||");
        Floors.addNets(x, 2);
        duePins(x, 0, "|0,1||2");
        duePins(x, 1, "0,1||2|");
    }

    /**
     * From 0 in halves to 1: left 54, right 34, below 54, above 34; to 2: left 50, right 30, below
     * 50, above 50. Net 0 would have the right side by itself, but the sum is less if it has not.
     */
    static void promise14_theSumCountsNotTheFirstNet() {
        SliceBlocks x = Floors.stiff(10, 10, 10, 10, 10, 10);
        x.fix(1, 10, 12);
        x.fix(2, 20, 0);
        x.net(0, 1);
        duePins(x, 0, "|0||");
        x.net(0, 2);
        x.net(0, 2);
        duePins(x, 0, "|1,2||0");
    }

    /**
     * Block 2 (20 x 20 at 12,40) with a block at each corner. In halves left, right, below, above:
     * to 0: 114 154 114 154, to 1: 58 98 98 58, to 3: 116 76 76 116, to 4: 190 150 190 150. The
     * least sum for these eight nets is 814.
     */
    static void promise14_eightNetsToFourBlocks() {
        SliceBlocks x = amongFour(3, 4, 3, 4, 3, 1, 0, 0);
        duePins(x, 2, "6,7|0,1|2,4|3,5");
    }

    /** The least sum is 514: 58 58 58 150 76 114. */
    static void promise14_sixNetsToFourBlocks() {
        SliceBlocks x = amongFour(1, 1, 1, 4, 3, 0);
        duePins(x, 2, "0,1|3,4|5|2");
    }

    private static SliceBlocks amongFour(int... others) {
        SliceBlocks x = Floors.stiff(4, 6, 8, 10, 20, 20, 6, 6, 10, 4);
        x.fix(1, 4, 70);
        x.fix(2, 12, 40);
        x.fix(3, 40, 20);
        x.fix(4, 60, 90);
        for (int other : others) {
            x.net(2, other);
        }
        return x;
    }

    /** 2 x 3, and its net goes up and right: in halves right 9, above 8. */
    static void promise14_aHalfDecides() {
        SliceBlocks x = Floors.stiff(2, 3, 1, 1);
        x.fix(1, 2, 5);
        x.net(0, 1);
        duePins(x, 0, "|||0");
        duePins(x, 1, "0|||");
    }

    static void promise14_netsOfASideAreByNumbers() {
        SliceBlocks x = Floors.stiff(10, 10, 10, 10, 10, 10);
        x.net(1, 2);
        x.net(2, 0);
        x.net(1, 0);
        x.net(0, 1);
        duePins(x, 1, "2,3|0||");
        CHECKS.due("the lesser number", 2, () -> x.pin(1, 0, 0));
        CHECKS.due("the greater number", 3, () -> x.pin(1, 0, 1));
    }

    static void promise14_bothEndsOfANetAreApart() {
        SliceBlocks x = Floors.stiff(10, 10, 10, 10, 10, 10);
        x.net(2, 0);
        x.net(1, 2);
        x.net(1, 0);
        duePins(x, 0, "|0,2||");
        duePins(x, 1, "2|1||");
        duePins(x, 2, "0,1|||");
    }

    /** The 40th net, number 39, from 7 to 10: right of 7 and left of 10 are nearest for all. */
    static void promise14_theNetOfTheHighestNumber() {
        SliceBlocks x = Floors.row(16, 2, 2);
        Floors.addAllNets(x);
        CHECKS.due("it is there", true, () -> Floors.pinsOf(x, 7).matches(".*\\b39\\b.*"));
        CHECKS.due("at its other end", true, () -> Floors.pinsOf(x, 10).matches(".*\\b39\\b.*"));
        CHECKS.due("and nowhere else", false, () -> Floors.pinsOf(x, 9).matches(".*\\b39\\b.*"));
    }

    static void promise14_aRefusedNetHasNoPin() {
        SliceBlocks x = Floors.stiff(10, 10, 10, 10);
        CHECKS.noArgument("net(0, 0)", () -> x.net(0, 0));
        duePins(x, 0, "|||");
    }

    /** 1 x 9 told: below 11, right 17. Turned to 9 x 1: right 9, below and above 19. */
    static void promise14_sidesAreThoseOfTheTurnedBlock() {
        SliceBlocks x = new SliceBlocks(Chance.seedFor("2: 2 0 *"));
        x.block(1, 9, true);
        x.block(9, 1, false);
        x.net(0, 1);
        duePins(x, 0, "||0|");
        x.pair(1);
        CHECKS.due("turned", true, () -> x.turned(0));
        duePins(x, 0, "|0||");
    }

    static void promise14_pinsFollowThePlanKept() {
        SliceBlocks x = Floors.stiffBy(Floors.seedOfPile(), 1, 4, 1, 3);
        x.net(0, 1);
        duePins(x, 0, "|0||");
        x.pair(1);
        duePins(x, 0, "|||0");
        duePins(x, 1, "||0|");
    }

    static void promise14_aFixThatIsNoneLeavesThem() {
        SliceBlocks x = twoWithANet();
        CHECKS.due("fix", false, () -> x.fix(1, 9, 500));
        duePins(x, 0, "|0||");
        duePins(x, 1, "0|||");
    }

    static void promise14_theFarthestPlaces() {
        SliceBlocks x = Floors.row(16, 1000, 1000);
        for (int i = 0; i < 8; i++) {
            x.net(0, 15);
        }
        x.fix(15, 20000, 20000);
        duePins(x, 0, "0,1|2,3|4,5|6,7");
        duePins(x, 15, "0,1|2,3|4,5|6,7");
    }

    static void promise14_aRefusedCallChangesNothing() {
        Twins twins = new Twins(CHECKS, Promise14PinTest::twoWithANet);
        twins.noIndex("pin(2, 0, 0)", x -> x.pin(2, 0, 0));
        twins.noIndex("pin(0, 4, 0)", x -> x.pin(0, 4, 0));
        twins.noIndex("pin(0, 0, 2)", x -> x.pin(0, 0, 2));
    }

    static void promise14_anAnsweredCallChangesNothing() {
        new Twins(CHECKS, Promise14PinTest::twoWithANet).leavesNothing("pin(0, 1, 0)", 0, x -> x.pin(0, 1, 0));
        new Twins(CHECKS, Floors::fullOfAll).leavesNothing("pin(3, 0, 0)", 2, x -> x.pin(3, 0, 0));
    }
}
