/**
 * Promise 9: pair. The seeds are searched for, so that a case's tries draw what its comment says;
 * "0 0 1" is what 0, p 0 and q 1. That the allowance of a last try is 0 cannot be shown by itself:
 * what is at hand behind the last try is seen by no call.
 */
public final class Promise09PairTest {
    private static final Checks CHECKS = new Checks("Promise09PairTest");

    public static void main(String[] args) {
        CHECKS.runCases(Promise09PairTest.class);
    }

    private static void duePlaces(SliceBlocks x, String... places) {
        for (int block = 0; block < places.length; block++) {
            int number = block;
            CHECKS.due("block " + block, places[block], () -> Floors.place(x, number));
        }
    }

    static void promise9_triesOf0AreTaken() {
        SliceBlocks x = Floors.stiff(5, 2, 3, 9);
        CHECKS.due("pair(0)", 72, () -> x.pair(0));
        duePlaces(x, "0,0", "5,0");
    }

    static void promise9_triesBelow0AreRefused() {
        SliceBlocks x = Floors.stiff(5, 2, 3, 9);
        for (int wrong : new int[] {-1, -2000, Integer.MIN_VALUE}) {
            CHECKS.noArgument("pair(" + wrong + ")", () -> x.pair(wrong));
        }
    }

    static void promise9_triesOf2000AreTaken() {
        SliceBlocks x = Floors.stiff(5, 2);
        CHECKS.due("pair(2000)", 10, () -> x.pair(2000));
    }

    static void promise9_triesOf2001AreRefused() {
        SliceBlocks x = Floors.stiff(5, 2, 3, 9);
        for (int wrong : new int[] {2001, 4000, Integer.MAX_VALUE}) {
            CHECKS.noArgument("pair(" + wrong + ")", () -> x.pair(wrong));
        }
    }

    static void promise9_wrongTriesAreRefusedWithoutBlocksToo() {
        SliceBlocks x = new SliceBlocks(1);
        CHECKS.noArgument("pair(-1)", () -> x.pair(-1));
        CHECKS.noArgument("pair(2001)", () -> x.pair(2001));
    }

    static void promise9_wrongTriesChangeNothing() {
        Twins twins = new Twins(CHECKS, () -> Floors.turningBy(5, 3, 8, 9, 2, 4, 4));
        twins.noArgument("pair(-1)", x -> x.pair(-1));
        twins.noArgument("pair(2001)", x -> x.pair(2001));
        new Twins(CHECKS, () -> new SliceBlocks(5)).noArgument("pair(2001)", x -> x.pair(2001));
        new Twins(CHECKS, Floors::fullOfAll).noArgument("pair(-1)", x -> x.pair(-1));
    }

    static void promise9_withoutBlocksTheAreaIs0() {
        SliceBlocks x = new SliceBlocks(1);
        for (int tries : new int[] {0, 1, 2000}) {
            CHECKS.due("pair(" + tries + ")", 0, () -> x.pair(tries));
        }
    }

    static void promise9_withoutBlocksNothingIsDrawn() {
        Twins twins = new Twins(CHECKS, () -> new SliceBlocks(5));
        twins.leavesNothing("pair(1)", 0, x -> x.pair(1));
        twins.leavesNothing("pair(2000)", 0, x -> x.pair(2000));
        SliceBlocks x = new SliceBlocks(Floors.seedOfPile());
        x.pair(7);
        x.block(1, 4, false);
        x.block(1, 3, false);
        CHECKS.due("the first draws are for the first blocks", 7, () -> x.pair(1));
    }

    static void promise9_triesOf0DrawNothing() {
        new Twins(CHECKS, () -> Floors.turningBy(5, 3, 8, 9, 2, 4, 4)).leavesNothing("pair(0)", 16 * 8, x -> x.pair(0));
        SliceBlocks x = Floors.stiffBy(Floors.seedOfPile(), 1, 4, 1, 3);
        CHECKS.due("no try", 8, () -> x.pair(0));
        CHECKS.due("one try", 7, () -> x.pair(1));
        CHECKS.due("no try again", 7, () -> x.pair(0));
    }

    /** A turned block alone is as large, with the same wire. */
    static void promise9_oneBlockAloneStaysAsItIs() {
        SliceBlocks x = Floors.turningBy(5, 3, 8);
        CHECKS.due("pair(2000)", 24, () -> x.pair(2000));
        duePlaces(x, "0,0");
        CHECKS.due("turned", false, () -> x.turned(0));
    }

    /** The area is told of the plan kept, not of the one at hand: 40 is at hand, 36 is kept. */
    static void promise9_theAreaIsThatOfThePlanKept() {
        SliceBlocks x = Floors.stiffBy(Chance.seedFor("3: 0 0 1", "3: 0 0 0"), 1, 6, 3, 2, 2, 1);
        CHECKS.due("pair(2)", 36, () -> x.pair(2));
        duePlaces(x, "0,0", "1,0", "4,0");
    }

    static void promise9_theAreaOfTheLongestRowFromTheFarthestCorner() {
        SliceBlocks x = Floors.row(16, 1000, 1000);
        x.fix(0, 20000, 20000);
        CHECKS.due("pair(0)", 36000 * 21000, () -> x.pair(0));
    }

    static void promise9_theLeastArea() {
        CHECKS.due("1 x 1", 1, () -> Floors.stiff(1, 1).pair(1));
    }

    /** 20000 away, but X and Y from 0 on count. */
    static void promise9_theAreaIsFrom0On() {
        SliceBlocks x = Floors.stiff(1, 1);
        x.fix(0, 20000, 7);
        CHECKS.due("pair(0)", 20001 * 8, () -> x.pair(0));
    }

    static void promise9_what0ExchangesPlacesOfTheFirstOrderOnly() {
        for (String drawn : new String[] {"2: 0 0 1", "2: 0 1 0"}) {
            SliceBlocks x = Floors.stiffBy(Chance.seedFor(drawn), 1, 4, 1, 3);
            CHECKS.due("area of " + drawn, 7, () -> x.pair(1));
            duePlaces(x, "0,0", "0,4");
        }
    }

    static void promise9_what0OfOnePlaceTwiceIsThePlanItself() {
        for (String drawn : new String[] {"2: 0 0 0", "2: 0 1 1"}) {
            SliceBlocks x = Floors.stiffBy(Chance.seedFor(drawn), 1, 4, 1, 3);
            CHECKS.due("area of " + drawn, 8, () -> x.pair(1));
            duePlaces(x, "0,0", "1,0");
        }
    }

    /** In a row of 2, 3 and 4 wide, the outer ones have a net: 12 halves, then 6. */
    static void promise9_what1ExchangesTheBlocksInBothOrders() {
        for (String drawn : new String[] {"3: 1 1 2", "3: 1 2 1"}) {
            SliceBlocks x = Floors.stiffBy(Chance.seedFor(drawn), 2, 1, 3, 1, 4, 1);
            x.net(0, 2);
            CHECKS.due("area of " + drawn, 9, () -> x.pair(1));
            duePlaces(x, "0,0", "6,0", "2,0");
        }
    }

    static void promise9_what1OfOnePlaceTwiceIsThePlanItself() {
        for (int place = 0; place < 3; place++) {
            SliceBlocks x = Floors.stiffBy(Chance.seedFor("3: 1 " + place + " " + place), 2, 1, 3, 1, 4, 1);
            x.net(0, 2);
            CHECKS.due("area", 9, () -> x.pair(1));
            duePlaces(x, "0,0", "2,0", "5,0");
        }
    }

    /**
     * After the first try the row is 0, 2, 1: places 0 and 1 are blocks 0 and 2. With two nets more
     * between 0 and 1, these exchanged make the wire 16, not 32; blocks 0 and 1 exchanged would not.
     */
    static void promise9_what1TakesPlacesOfTheFirstOrderNotNumbers() {
        SliceBlocks x = Floors.stiffBy(Chance.seedFor("3: 1 1 2", "3: 1 0 1"), 2, 1, 3, 1, 4, 1);
        x.net(0, 2);
        x.pair(1);
        x.net(0, 1);
        x.net(1, 0);
        CHECKS.due("wire", 32, () -> x.wire());
        x.pair(1);
        CHECKS.due("wire then", 16, () -> x.wire());
        duePlaces(x, "4,0", "6,0", "0,0");
    }

    static void promise9_what2TurnsTheBlockAtPlaceP() {
        for (String drawn : new String[] {"2: 2 0 0", "2: 2 0 1"}) {
            SliceBlocks x = Floors.turningBy(Chance.seedFor(drawn), 1, 9, 9, 1);
            CHECKS.due("area of " + drawn, 18, () -> x.pair(1));
            CHECKS.due("turned(0)", true, () -> x.turned(0));
            CHECKS.due("turned(1)", false, () -> x.turned(1));
            duePlaces(x, "0,0", "9,0");
        }
    }

    /** In the pile, 1 is before 0 in the first order: turned, it makes 1 x 7; the other one, 4 x 2. */
    static void promise9_what2TakesAPlaceOfTheFirstOrderNotANumber() {
        SliceBlocks x = Floors.turningBy(Floors.seedOfPile("2: 2 0 *"), 1, 4, 3, 1);
        CHECKS.due("the pile", 15, () -> x.pair(1));
        CHECKS.due("turned", 7, () -> x.pair(1));
        CHECKS.due("turned(0)", false, () -> x.turned(0));
        CHECKS.due("turned(1)", true, () -> x.turned(1));
    }

    /** Beside 100 x 9 it is better as it was told: 110 x 9, not 118 x 9. */
    static void promise9_what2TurnsATurnedBlockBack() {
        SliceBlocks x = Floors.turnedFirst("3: 2 0 *");
        x.block(100, 9, false);
        CHECKS.due("area", 990, () -> x.pair(1));
        CHECKS.due("turned(0)", false, () -> x.turned(0));
        duePlaces(x, "0,0", "1,0", "10,0");
    }

    static void promise9_what2OfABlockThatMayNotBeTurnedIsThePlanItself() {
        SliceBlocks x = Floors.stiffBy(Chance.seedFor("2: 2 0 *"), 1, 9, 9, 1);
        CHECKS.due("area", 90, () -> x.pair(1));
        CHECKS.due("turned(0)", false, () -> x.turned(0));
    }

    static void promise9_what2OfAFixedBlockIsThePlanItself() {
        SliceBlocks x = Floors.turningBy(Chance.seedFor("2: 2 0 *"), 1, 9, 9, 1);
        x.fix(0, 0, 0);
        CHECKS.due("area", 90, () -> x.pair(1));
        CHECKS.due("turned(0)", false, () -> x.turned(0));
    }

    static void promise9_what2OfAFreeBlockBesideAFixedOneTurnsIt() {
        SliceBlocks x = Floors.turningBy(Chance.seedFor("2: 2 0 *"), 1, 9, 9, 1);
        x.fix(1, 30, 0);
        CHECKS.due("area", 39, () -> x.pair(1));
        CHECKS.due("turned(0)", true, () -> x.turned(0));
    }

    /** 0 goes to the ground under all others and 15 on top of them: 14 x 4. */
    static void promise9_theOuterPlacesOf16Blocks() {
        for (String drawn : new String[] {"16: 0 0 15", "16: 0 15 0"}) {
            SliceBlocks x = new SliceBlocks(Chance.seedFor(drawn));
            for (int i = 0; i < 16; i++) {
                boolean isOuter = i == 0 || i == 15;
                x.block(isOuter ? 14 : 1, isOuter ? 1 : 2, false);
            }
            CHECKS.due("the row", 84, () -> x.pair(0));
            CHECKS.due("area of " + drawn, 56, () -> x.pair(1));
            duePlaces(x, "0,0", "0,1", "1,1");
            CHECKS.due("block 14", "13,1", () -> Floors.place(x, 14));
            CHECKS.due("block 15", "0,3", () -> Floors.place(x, 15));
        }
    }

    static void promise9_aTurnAtTheLastPlaceOf16Blocks() {
        SliceBlocks x = new SliceBlocks(Chance.seedFor("16: 2 15 *"));
        for (int i = 0; i < 15; i++) {
            x.block(1, 1, true);
        }
        x.block(1, 9, true);
        CHECKS.due("area", 24, () -> x.pair(1));
        CHECKS.due("turned(15)", true, () -> x.turned(15));
    }

    /** 2 x 4 for the row, 1 x 7 for the pile: less by one is enough. */
    static void promise9_aPlanOfLessAreaIsKeptEvenWithMoreWire() {
        SliceBlocks x = Floors.stiffBy(Floors.seedOfPile(), 1, 4, 1, 3);
        x.net(0, 1);
        CHECKS.due("wire of the row", 3, () -> x.wire());
        CHECKS.due("area", 7, () -> x.pair(1));
        CHECKS.due("wire of the pile", 7, () -> x.wire());
    }

    static void promise9_aPlanOfTheSameAreaAndWireIsNotKept() {
        SliceBlocks x = Floors.stiffBy(Chance.seedFor("2: 1 0 1"), 2, 1, 3, 1);
        x.net(0, 1);
        CHECKS.due("area", 5, () -> x.pair(1));
        duePlaces(x, "0,0", "2,0");
    }

    static void promise9_aPlanOfTheSameAreaWithoutNetsIsNotKept() {
        SliceBlocks x = Floors.stiffBy(Chance.seedFor("3: 1 0 2"), 2, 1, 3, 1, 4, 1);
        CHECKS.due("area", 9, () -> x.pair(1));
        duePlaces(x, "0,0", "2,0", "5,0");
    }

    static void promise9_aPlanOfTheSameAreaAndMoreWireIsNotKept() {
        SliceBlocks x = Floors.stiffBy(Chance.seedFor("3: 1 1 2"), 2, 1, 3, 1, 4, 1);
        x.net(0, 1);
        CHECKS.due("area", 9, () -> x.pair(1));
        CHECKS.due("wire", 5, () -> x.wire());
        duePlaces(x, "0,0", "2,0", "5,0");
    }

    /** From 0 to 1 and 2: 5 and 12 halves, with these exchanged 11 and 4. */
    static void promise9_aLittleLessWireIsEnough() {
        SliceBlocks x = Floors.stiffBy(Chance.seedFor("3: 1 1 2"), 1, 2, 4, 2, 3, 2);
        x.net(0, 1);
        x.net(0, 2);
        CHECKS.due("wire", 17, () -> x.wire());
        CHECKS.due("area", 16, () -> x.pair(1));
        CHECKS.due("wire then", 15, () -> x.wire());
        duePlaces(x, "0,0", "4,0", "1,0");
    }

    /** Rows of 2, 3 and 4 wide: 0, 1, 2 has a wire of 29; then 1, 0, 2 has 17, and 1, 2, 0 has 25. */
    static void promise9_lessWireThanThePlanKeptNowNotThanTheFirst() {
        SliceBlocks x = Floors.stiffBy(Chance.seedFor("3: 1 0 1", "3: 1 1 2"), 2, 1, 3, 1, 4, 1);
        x.net(0, 2);
        x.net(2, 0);
        x.net(0, 1);
        CHECKS.due("wire", 29, () -> x.wire());
        CHECKS.due("area", 9, () -> x.pair(2));
        CHECKS.due("wire then", 17, () -> x.wire());
        duePlaces(x, "3,0", "0,0", "5,0");
    }

    /** The pile of 30 is kept; the row of 32 is at hand then (30 / 8 is 3), and its wire is less. */
    static void promise9_aPlanOfGreaterAreaIsNotKeptEvenWithLessWire() {
        SliceBlocks x = Floors.stiffBy(Floors.seedOfPile("2: 0 0 1", "2: 0 0 0"), 2, 8, 2, 7);
        x.net(0, 1);
        CHECKS.due("wire of the row", 5, () -> x.wire());
        CHECKS.due("the pile", 30, () -> x.pair(1));
        CHECKS.due("area", 30, () -> x.pair(2));
        CHECKS.due("wire of the pile", 15, () -> x.wire());
    }

    /** 36 x 1 / 8 is 4.5, so 4: the first try makes 40 of 36, the second 35 of that. */
    static void promise9_anAreaOfAtHandAndAllowanceIsTaken() {
        SliceBlocks x = Floors.stiffBy(Chance.seedFor("3: 0 0 1", "3: 1 0 2"), 1, 6, 3, 2, 2, 1);
        CHECKS.due("before", 36, () -> x.pair(0));
        CHECKS.due("area", 35, () -> x.pair(2));
    }

    /** 21 x 1 / 8 is 2.6, so 2: the first try would make 24 of 21, and the second 18 of that. */
    static void promise9_anAreaOneBeyondAtHandAndAllowanceIsNotTaken() {
        SliceBlocks x = Floors.stiffBy(Chance.seedFor("3: 0 0 1", "3: 1 0 2"), 1, 1, 1, 3, 5, 2);
        CHECKS.due("before", 21, () -> x.pair(0));
        CHECKS.due("area", 21, () -> x.pair(2));
        duePlaces(x, "0,0", "1,0", "2,0");
    }

    /** 90 x 1 / 12 is 7 (of 70 it would be 5): 70, then 77, then 55. */
    static void promise9_theAllowanceIsOfTheAreaWhenTheTriesBegan() {
        SliceBlocks x = Floors.stiffBy(Chance.seedFor("3: 0 0 2", "3: 0 0 1", "3: 0 1 2"), 7, 2, 7, 3, 4, 5);
        CHECKS.due("before", 90, () -> x.pair(0));
        CHECKS.due("area", 55, () -> x.pair(3));
    }

    /** 56 x 1 / 12 is 4: 35, then 40 is one too many, and 27 is not reached. */
    static void promise9_theAllowanceIsAddedToTheAreaAtHandNotToTheFirst() {
        SliceBlocks x = Floors.stiffBy(Chance.seedFor("3: 0 1 2", "3: 0 0 1", "3: 0 1 2"), 2, 7, 3, 1, 3, 1);
        CHECKS.due("before", 56, () -> x.pair(0));
        CHECKS.due("area", 35, () -> x.pair(3));
    }

    /** 112 is kept, 117 at hand: with 9 more 126 is at hand (beyond 112 and 9), and then 99. */
    static void promise9_theAllowanceIsAddedToTheAreaAtHandNotToTheKept() {
        SliceBlocks x = Floors.stiffBy(Chance.seedFor("3: 0 0 1", "3: 0 0 2", "3: 0 0 1"), 1, 6, 8, 3, 5, 8);
        CHECKS.due("before", 112, () -> x.pair(0));
        CHECKS.due("area", 99, () -> x.pair(3));
    }

    /** Of 104, 17 in the first try of three but 8 in the second: 117 is one beyond 108 and 8. */
    static void promise9_theAllowanceFalls() {
        SliceBlocks x = Floors.stiffBy(Chance.seedFor("3: 0 0 1", "3: 0 0 2", "3: 1 0 1"), 5, 4, 4, 8, 4, 5);
        CHECKS.due("before", 104, () -> x.pair(0));
        CHECKS.due("area", 104, () -> x.pair(3));
    }

    /** 21 x 3 / 16 is 3: what the first of two tries may not take, the first of four may. */
    static void promise9_theAllowanceDependsOnHowManyTriesThereAre() {
        SliceBlocks x = Floors.stiffBy(Chance.seedFor("3: 0 0 1", "3: 1 0 2", "3: 2 * *", "3: 2 * *"), 1, 1, 1, 3, 5, 2);
        CHECKS.due("before", 21, () -> x.pair(0));
        CHECKS.due("area", 18, () -> x.pair(4));
    }

    /** 0 fixed at 0,0: what 1 would put 1 left of it, so the pile of the second try is of the row. */
    static void promise9_whatIsNoPlanIsNotTaken() {
        SliceBlocks x = Floors.stiffBy(Chance.seedFor("2: 1 0 1", "2: 0 0 1"), 1, 4, 1, 3);
        x.fix(0, 0, 0);
        CHECKS.due("area", 7, () -> x.pair(2));
        duePlaces(x, "0,0", "0,4");
    }

    /** 0 fixed 3 from the left: with 1 (3 wide) exchanged for it, it would be at 3 as well. */
    static void promise9_aFixedBlockWhereItWouldBeIsAPlan() {
        SliceBlocks x = Floors.stiffBy(Chance.seedFor("2: 1 0 1"), 2, 1, 3, 1);
        x.fix(0, 3, 0);
        CHECKS.due("before", 8, () -> x.pair(0));
        CHECKS.due("area", 5, () -> x.pair(1));
        duePlaces(x, "3,0", "0,0");
    }

    static void promise9_aFixedBlockOneLessThanItWouldBeIsNoPlan() {
        SliceBlocks x = Floors.stiffBy(Chance.seedFor("2: 1 0 1"), 2, 1, 3, 1);
        x.fix(0, 2, 0);
        CHECKS.due("before", 7, () -> x.pair(0));
        CHECKS.due("area", 7, () -> x.pair(1));
        duePlaces(x, "2,0", "4,0");
    }

    /** 1 is fixed upon 0, 4 high; 2, as high, is exchanged for 0, and its net is shorter then. */
    static void promise9_aFixedBlockAsHighAsItWouldBeIsAPlan() {
        SliceBlocks x = pileAndAnother(4);
        CHECKS.due("area", 14, () -> x.pair(1));
        CHECKS.due("wire", 7, () -> x.wire());
        duePlaces(x, "1,0", "0,4", "0,0");
    }

    static void promise9_aFixedBlockOneLowerThanItWouldBeIsNoPlan() {
        SliceBlocks x = pileAndAnother(5);
        CHECKS.due("area", 14, () -> x.pair(1));
        duePlaces(x, "0,0", "0,4", "1,0");
    }

    private static SliceBlocks pileAndAnother(long height) {
        SliceBlocks x = Floors.stiffBy(Floors.seedOfPile("3: 1 1 2"), 1, 4, 1, 3);
        x.pair(1);
        x.fix(1, 0, 4);
        x.block(1, height, false);
        x.net(1, 2);
        return x;
    }

    /** Behind the first call 40 is at hand and 36 kept; the second one makes 35 only of the 40. */
    static void promise9_eachCallBeginsWithThePlanKept() {
        SliceBlocks x = Floors.stiffBy(Chance.seedFor("3: 0 0 1", "3: 0 0 0", "3: 1 0 2"), 1, 6, 3, 2, 2, 1);
        CHECKS.due("first", 36, () -> x.pair(2));
        CHECKS.due("second", 36, () -> x.pair(1));
        duePlaces(x, "0,0", "1,0", "4,0");
    }

    static void promise9_drawsGoOnFromCallToCall() {
        SliceBlocks x = Floors.turningBy(Chance.seedFor("1: * * *", "1: * * *", "2: 0 0 1"), 1, 1);
        x.pair(2);
        x.block(1, 4, false);
        CHECKS.due("the try behind two of one block", 5, () -> x.pair(1));
    }

    static void promise9_eachTryDrawsThreeNumbersWhateverItIs() {
        for (String first : new String[] {"2: 0 0 0", "2: 1 0 0", "2: 2 0 *", "2: 2 1 *"}) {
            SliceBlocks x = Floors.stiffBy(Chance.seedFor(first, "2: 0 0 1"), 1, 4, 1, 3);
            CHECKS.due("behind " + first, 8, () -> x.pair(1));
            CHECKS.due("the next try", 7, () -> x.pair(1));
        }
    }

    static void promise9_aTryThatIsNoPlanDrawsThreeNumbersToo() {
        SliceBlocks x = Floors.stiffBy(Chance.seedFor("2: 1 0 1", "2: 0 0 1"), 1, 4, 1, 3);
        x.fix(0, 0, 0);
        CHECKS.due("no plan", 8, () -> x.pair(1));
        CHECKS.due("the next try", 7, () -> x.pair(1));
    }

    /** Small and great seeds: states that wrap or do not, with the highest bit and without it. */
    static void promise9_drawsWrapAroundAndAreNeverBelow0() {
        for (long i = 0; i < 200; i++) {
            long seed = i % 2 == 0 ? i : Long.MAX_VALUE - i;
            SliceBlocks x = Floors.stiffBy(seed, 1, 4, 1, 3);
            int[] drawn = Chance.draws(seed, 3, 2, 2);
            boolean isPile = drawn[0] == 0 && drawn[1] != drawn[2];
            CHECKS.due("area of seed " + seed, isPile ? 7 : 8, () -> x.pair(1));
        }
    }

    /** 756,000,000 x 1999 is beyond an int: the allowance of great areas, against the slow model. */
    static void promise9_greatAreasDoNotWrapAround() {
        for (long seed = 0; seed < 4; seed++) {
            SliceBlocks x = new SliceBlocks(seed);
            FloorModel model = new FloorModel(seed);
            for (int i = 0; i < 6; i++) {
                x.block(1000 - 31 * i, 400 + 100 * i, true);
                model.block(1000 - 31 * i, 400 + 100 * i, true);
            }
            x.fix(0, 20000, 20000);
            model.fix(0, 20000, 20000);
            CHECKS.due("pair(2000)", model.pair(2000), () -> x.pair(2000));
            for (int i = 0; i < 6; i++) {
                int block = i;
                CHECKS.due("X of " + i, model.at(i, 0), () -> x.at(block, 0));
                CHECKS.due("Y of " + i, model.at(i, 1), () -> x.at(block, 1));
            }
        }
    }

    static void promise9_aFullObjectTakes2000Tries() {
        SliceBlocks x = Floors.fullOfAll();
        int before = x.pair(0);
        CHECKS.due("no more than before", true, () -> x.pair(2000) <= before);
        CHECKS.due("at least all blocks", true, () -> x.pair(0) >= blocksOfFull());
        CHECKS.due("overlap", false, () -> x.overlap());
    }

    private static int blocksOfFull() {
        int area = 0;
        for (int i = 0; i < Floors.MOST_BLOCKS; i++) {
            area += (1 + i) * (1000 - i);
        }
        return area;
    }
}
