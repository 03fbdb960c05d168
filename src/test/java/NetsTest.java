/** Promises 4, 13 and 14: nets, the wire and pins. */
public final class NetsTest {
    private static final Checks CHECKS = new Checks("NetsTest");

    public static void main(String[] args) {
        netNumbers();
        netErrors();
        netLimitOfABlock();
        netLimitOfAll();
        wireInHalves();
        wireFollowsFix();
        pinAtTheNearestSide();
        pinsFillSides();
        pinsOfSeveralBestWays();
        leastSumNotGreedy();
        bothEndsApart();
        pinErrors();
        CHECKS.end();
    }

    private static SliceBlocks row(int count, long width, long height) {
        SliceBlocks x = new SliceBlocks(9);
        for (int i = 0; i < count; i++) {
            x.block(width, height, false);
        }
        return x;
    }

    private static void netNumbers() {
        SliceBlocks x = row(3, 2, 2);
        CHECKS.due("first net", 0, () -> x.net(0, 1));
        CHECKS.due("the same once more", 1, () -> x.net(0, 1));
        CHECKS.due("turned about", 2, () -> x.net(1, 0));
        CHECKS.due("another one", 3, () -> x.net(2, 0));
    }

    private static void netErrors() {
        SliceBlocks x = row(2, 2, 2);
        x.slice(0, 1, true);
        for (int wrong : new int[] {-1, 2, 3, 40, Integer.MIN_VALUE, Integer.MAX_VALUE}) {
            CHECKS.noIndex("net(0, " + wrong + ")", () -> x.net(0, wrong));
            CHECKS.noIndex("net(" + wrong + ", 1)", () -> x.net(wrong, 1));
            CHECKS.noIndex("net(" + wrong + ", same)", () -> x.net(wrong, wrong));
        }
        CHECKS.noArgument("net(1, 1)", () -> x.net(1, 1));
        CHECKS.due("wrong nets left nothing", 0, () -> x.wire());
        CHECKS.due("first net", 0, () -> x.net(0, 1));
    }

    private static void netLimitOfABlock() {
        SliceBlocks x = row(4, 2, 2);
        for (int i = 0; i < 8; i++) {
            x.net(i % 2 == 0 ? 0 : 1 + i % 3, i % 2 == 0 ? 1 + i % 3 : 0);
        }
        for (int other = 1; other < 4; other++) {
            int to = other;
            CHECKS.noState("ninth net from 0 to " + to, () -> x.net(0, to));
            CHECKS.noState("ninth net from " + to + " to 0", () -> x.net(to, 0));
        }
        CHECKS.noState("the same one, that has 8", () -> x.net(0, 0));
        CHECKS.noIndex("one that has 8 and none", () -> x.net(0, 4));
        CHECKS.noArgument("the same one, that has less", () -> x.net(3, 3));
        CHECKS.due("others still take nets", 8, () -> x.net(1, 3));
    }

    private static void netLimitOfAll() {
        SliceBlocks x = row(16, 2, 2);
        int made = 0;
        for (int step = 1; made < 40; step++) {
            for (int i = 0; i < 16 && made < 40; i++) {
                int number = made;
                int from = i;
                int to = (i + step) % 16;
                CHECKS.due("net " + number, number, () -> x.net(from, to));
                made++;
            }
        }
        CHECKS.noState("net 40", () -> x.net(14, 15));
        CHECKS.noState("net 40 of the same one", () -> x.net(15, 15));
        CHECKS.noIndex("net 40 with none", () -> x.net(15, 16));
    }

    private static void wireInHalves() {
        SliceBlocks x = new SliceBlocks(9);
        x.block(3, 4, false);
        x.block(2, 1, false);
        CHECKS.due("without nets", 0, () -> x.wire());
        x.net(0, 1);
        // Middles in halves: (3, 4) and (6 + 2, 1).
        CHECKS.due("one net", 5 + 3, () -> x.wire());
        x.net(1, 0);
        CHECKS.due("two nets", 16, () -> x.wire());
    }

    private static void wireFollowsFix() {
        SliceBlocks x = new SliceBlocks(9);
        x.block(3, 4, false);
        x.block(2, 1, false);
        x.net(0, 1);
        x.fix(1, 20000, 20000);
        CHECKS.due("far away", (40002 - 3) + (40001 - 4), () -> x.wire());
        CHECKS.due("refused", false, () -> x.fix(1, 2, 0));
        CHECKS.due("as before", (40002 - 3) + (40001 - 4), () -> x.wire());
    }

    private static void pinAtTheNearestSide() {
        SliceBlocks x = row(2, 2, 10);
        x.net(0, 1);
        duePins(x, 0, -1, -1, 0, -1, -1, -1, -1, -1);
        duePins(x, 1, 0, -1, -1, -1, -1, -1, -1, -1);
        x.fix(1, 2, 500);
        duePins(x, 0, -1, -1, -1, -1, -1, -1, 0, -1);
        duePins(x, 1, -1, -1, -1, -1, 0, -1, -1, -1);
    }

    /**
     * In halves, from 0 (10 x 2) to 1: left 38, right 18, below 30, above 26; from 1 (10 x 10 at
     * 10) to 0: left 18, right 38, below 22, above 38. Each side takes two.
     */
    private static void pinsFillSides() {
        SliceBlocks x = new SliceBlocks(9);
        x.block(10, 2, false);
        x.block(10, 10, false);
        addNets(x, 3);
        duePins(x, 0, -1, -1, 0, 1, -1, -1, 2, -1);
        duePins(x, 1, 0, 1, -1, -1, 2, -1, -1, -1);
        addNets(x, 2);
        duePins(x, 0, -1, -1, 0, 1, 2, -1, 3, 4);
        duePins(x, 1, 0, 1, 2, -1, 3, 4, -1, -1);
        addNets(x, 2);
        duePins(x, 0, 0, -1, 1, 2, 3, 4, 5, 6);
        duePins(x, 1, 0, 1, 2, 3, 4, 5, 6, -1);
        addNets(x, 1);
        duePins(x, 0, 0, 1, 2, 3, 4, 5, 6, 7);
        duePins(x, 1, 0, 1, 2, 3, 4, 5, 6, 7);
    }

    private static void addNets(SliceBlocks x, int count) {
        for (int i = 0; i < count; i++) {
            x.net(i % 2, 1 - i % 2);
        }
    }

    /**
     * From 0 the right side is 20 nearer than each other one, to 1 as to 2: so two nets are at the
     * right in all best ways, and the least nets have the least side, left.
     */
    private static void pinsOfSeveralBestWays() {
        SliceBlocks x = row(3, 10, 10);
        x.net(0, 2);
        x.net(0, 1);
        x.net(0, 2);
        x.net(0, 1);
        duePins(x, 0, 0, 1, 2, 3, -1, -1, -1, -1);
    }

    /** Net 2 saves most at the right side, so of the three one of the others has to leave it. */
    private static void leastSumNotGreedy() {
        SliceBlocks x = new SliceBlocks(9);
        x.block(10, 10, false);
        x.block(10, 10, false);
        x.block(10, 10, false);
        x.fix(1, 10, 12);
        x.fix(2, 20, 0);
        // From 0, in halves, to 1 (middle 30, 34): left 30 + 24, right 10 + 24, below 20 + 34,
        // above 20 + 14. To 2 (middle 50, 10): left 50, right 30, below 40 + 10, above 40 + 10.
        x.net(0, 1);
        x.net(0, 2);
        x.net(0, 2);
        duePins(x, 0, -1, -1, 1, 2, -1, -1, 0, -1);
    }

    /** Each block has a matching of its own: a net's two pins do not know of each other. */
    private static void bothEndsApart() {
        SliceBlocks x = row(3, 10, 10);
        x.net(2, 0);
        x.net(1, 2);
        x.net(1, 0);
        duePins(x, 0, -1, -1, 0, 2, -1, -1, -1, -1);
        duePins(x, 1, 2, -1, 1, -1, -1, -1, -1, -1);
        duePins(x, 2, 0, 1, -1, -1, -1, -1, -1, -1);
    }

    private static void pinErrors() {
        SliceBlocks x = row(2, 10, 10);
        x.slice(0, 1, true);
        x.net(0, 1);
        for (int wrong : new int[] {-1, 2, 4, 40, Integer.MIN_VALUE, Integer.MAX_VALUE}) {
            CHECKS.noIndex("pin of " + wrong, () -> x.pin(wrong, 0, 0));
            CHECKS.noIndex("pin number " + wrong, () -> x.pin(0, 0, wrong));
            if (wrong != 2) {
                CHECKS.noIndex("pin at side " + wrong, () -> x.pin(0, wrong, 0));
            }
        }
        CHECKS.due("a net that is not there", SliceBlocks.NONE, () -> x.pin(0, 3, 1));
    }

    /** Left, right, below and above, two each. */
    private static void duePins(SliceBlocks x, int block, int... nets) {
        for (int side = 0; side < 4; side++) {
            for (int k = 0; k < 2; k++) {
                int atSide = side;
                int number = k;
                CHECKS.due("pin(" + block + ", " + side + ", " + k + ")", nets[2 * side + k],
                    () -> x.pin(block, atSide, number));
            }
        }
    }
}
