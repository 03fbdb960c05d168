/** Promise 10: at. */
public final class Promise10AtTest {
    private static final Checks CHECKS = new Checks("Promise10AtTest");

    public static void main(String[] args) {
        CHECKS.runCases(Promise10AtTest.class);
    }

    static void promise10_axis0IsXAndAxis1IsY() {
        SliceBlocks x = Floors.stiff(5, 2);
        x.fix(0, 7, 6);
        CHECKS.due("X", 7, () -> x.at(0, 0));
        CHECKS.due("Y", 6, () -> x.at(0, 1));
    }

    static void promise10_axis2IsRefused() {
        SliceBlocks x = Floors.stiff(5, 2);
        for (int wrong : new int[] {2, 3, 1000, Integer.MAX_VALUE}) {
            CHECKS.noIndex("axis " + wrong, () -> x.at(0, wrong));
        }
    }

    static void promise10_axesBelow0AreRefused() {
        SliceBlocks x = Floors.stiff(5, 2);
        CHECKS.noIndex("axis -1", () -> x.at(0, -1));
        CHECKS.noIndex("the least int", () -> x.at(0, Integer.MIN_VALUE));
    }

    static void promise10_theLastBlockIsTakenAndTheNextNumberIsRefused() {
        SliceBlocks x = Floors.stiff(5, 2, 3, 9);
        CHECKS.due("at(1, 0)", 5, () -> x.at(1, 0));
        CHECKS.noIndex("at(2, 0)", () -> x.at(2, 0));
    }

    static void promise10_theFirstBlockIsTakenAndNumbersBelow0AreRefused() {
        SliceBlocks x = Floors.stiff(5, 2, 3, 9);
        CHECKS.due("at(0, 0)", 0, () -> x.at(0, 0));
        CHECKS.noIndex("at(-1, 0)", () -> x.at(-1, 0));
        CHECKS.noIndex("the least int", () -> x.at(Integer.MIN_VALUE, 0));
    }

    static void promise10_numbersFarBeyondAreRefused() {
        SliceBlocks x = Floors.row(16, 3, 3);
        CHECKS.due("at(15, 0)", 45, () -> x.at(15, 0));
        for (int wrong : new int[] {16, 31, 39, 40, 1000, Integer.MAX_VALUE}) {
            CHECKS.noIndex("at(" + wrong + ", 0)", () -> x.at(wrong, 0));
        }
    }

    static void promise10_aSliceIsNoBlock() {
        SliceBlocks x = Floors.stiff(5, 2, 3, 9);
        x.slice(0, 1, true);
        x.block(1, 1, true);
        CHECKS.noIndex("at(2, 0)", () -> x.at(2, 0));
        CHECKS.noIndex("at(2, 1)", () -> x.at(2, 1));
        CHECKS.due("a block in a slice", 5, () -> x.at(1, 0));
        CHECKS.due("a block behind a slice", 8, () -> x.at(3, 0));
    }

    static void promise10_twoWrongNumbersAreRefused() {
        SliceBlocks x = Floors.stiff(5, 2);
        CHECKS.noIndex("at(1, 2)", () -> x.at(1, 2));
        CHECKS.noIndex("at(-1, -1)", () -> x.at(-1, -1));
    }

    static void promise10_withoutBlocksThereIsNone() {
        CHECKS.noIndex("at(0, 0)", () -> new SliceBlocks(1).at(0, 0));
    }

    static void promise10_aBlockWithNoneLeftOrBelowIsAt0() {
        SliceBlocks x = Floors.stiff(5, 2, 3, 9);
        CHECKS.due("block 0", "0,0", () -> Floors.place(x, 0));
        CHECKS.due("block 1 has none below", 0, () -> x.at(1, 1));
        SliceBlocks y = Floors.pile();
        CHECKS.due("upon another, it has none left", "0,4", () -> Floors.place(y, 1));
    }

    /** 0 is below 1, both are left of 2: the wider one counts. */
    static void promise10_theGreatestOfThoseLeftCounts() {
        SliceBlocks x = Floors.stiffBy(Chance.seedFor("3: 0 0 1"), 4, 1, 2, 1, 3, 9);
        CHECKS.due("the row", 9 * 9, () -> x.pair(0));
        CHECKS.due("0 below 1", 7 * 9, () -> x.pair(1));
        CHECKS.due("block 2 is right of the wider one", "4,0", () -> Floors.place(x, 2));
        SliceBlocks y = Floors.stiffBy(Chance.seedFor("3: 0 0 1"), 2, 1, 4, 1, 3, 9);
        y.pair(1);
        CHECKS.due("also if that is above", "4,0", () -> Floors.place(y, 2));
    }

    /** 0 and 1 side by side below 2, which is as wide as both: the higher one holds it up. */
    static void promise10_theGreatestOfThoseBelowCounts() {
        for (boolean isFirstHigher : new boolean[] {true, false}) {
            SliceBlocks x = Floors.stiffBy(Chance.seedFor("3: 0 0 2", "3: 0 1 2"),
                5, isFirstHigher ? 4 : 3, 5, isFirstHigher ? 3 : 4, 10, 1);
            x.pair(2);
            CHECKS.due("block 0", "0,0", () -> Floors.place(x, 0));
            CHECKS.due("block 1", "5,0", () -> Floors.place(x, 1));
            CHECKS.due("block 2", "0,4", () -> Floors.place(x, 2));
        }
    }

    static void promise10_theFarthestPlaces() {
        SliceBlocks x = Floors.row(16, 1000, 1000);
        x.fix(0, 20000, 20000);
        CHECKS.due("block 0", "20000,20000", () -> Floors.place(x, 0));
        CHECKS.due("block 15", "35000,0", () -> Floors.place(x, 15));
    }

    static void promise10_placesAreOfThePlanKept() {
        SliceBlocks x = Floors.stiffBy(Chance.seedFor("3: 0 0 1", "3: 0 0 0"), 1, 6, 3, 2, 2, 1);
        x.pair(2);
        CHECKS.due("block 1, at hand upon 0", "1,0", () -> Floors.place(x, 1));
        CHECKS.due("block 2, at hand at 3", "4,0", () -> Floors.place(x, 2));
    }

    static void promise10_widthsCountAsTurned() {
        SliceBlocks x = Floors.turnedFirst();
        CHECKS.due("block 1", "9,0", () -> Floors.place(x, 1));
    }

    static void promise10_aRefusedCallChangesNothing() {
        Twins twins = new Twins(CHECKS, () -> Floors.turningBy(5, 8, 2, 5, 3));
        twins.noIndex("at(2, 0)", x -> x.at(2, 0));
        twins.noIndex("at(0, 2)", x -> x.at(0, 2));
    }

    static void promise10_anAnsweredCallChangesNothing() {
        new Twins(CHECKS, () -> Floors.turningBy(5, 8, 2, 5, 3)).leavesNothing("at(1, 0)", 8, x -> x.at(1, 0));
    }
}
