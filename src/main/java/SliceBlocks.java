/**
 * Plans of a floor: blocks in slicing trees with all their least shapes, blocks packed by two
 * orders that tries by chance improve, the wire between them, and the pins at their sides.
 */
public final class SliceBlocks {
    public static final int NONE = -1;

    private static final int MOST_THINGS = 40;
    private static final int MOST_BLOCKS = 16;
    private static final int MOST_NETS = 40;
    private static final int MOST_NETS_OF_A_BLOCK = 8;
    private static final int MOST_TRIES = 2000;
    private static final long LONGEST_SIDE = 1000L;
    private static final long FARTHEST_PLACE = 20000L;

    private static final int AXES = 2;
    private static final int SIDES = 4;
    private static final int PINS_AT_A_SIDE = 2;

    private final Thing[] things;
    private int thingCount;
    private final Blocks blocks;
    private final Nets nets;
    private final Plan kept;
    private final Search search;
    private final Pins pins;

    public SliceBlocks(long seed) {
        things = new Thing[MOST_THINGS];
        thingCount = 0;
        blocks = new Blocks();
        nets = new Nets();
        kept = new Plan(blocks);
        search = new Search(kept, new Plan(blocks), nets, new Draws(seed));
        pins = new Pins(kept, nets);
    }

    public int block(long width, long height, boolean turns)
            throws IllegalStateException, IllegalArgumentException {
        if (blocks.count >= MOST_BLOCKS || thingCount >= MOST_THINGS) {
            throw new IllegalStateException("no room for a block");
        }
        if (!isWithin(width, 1L, LONGEST_SIDE) || !isWithin(height, 1L, LONGEST_SIDE)) {
            throw new IllegalArgumentException("a side is not 1 .. 1000");
        }
        int index = blocks.append((int) width, (int) height, turns);
        kept.append(index);
        return appendThing(new Thing(index, ShapeList.ofBlock((int) width, (int) height, turns)));
    }

    public boolean fix(int block, long x, long y)
            throws IndexOutOfBoundsException, IllegalArgumentException {
        int index = findBlock(block);
        if (index == NONE) {
            throw new IndexOutOfBoundsException("no such block");
        }
        if (!isWithin(x, 0L, FARTHEST_PLACE) || !isWithin(y, 0L, FARTHEST_PLACE)) {
            throw new IllegalArgumentException("a place is not 0 .. 20000");
        }
        return kept.fixIfStillPlan(index, (int) x, (int) y);
    }

    public int net(int a, int b)
            throws IndexOutOfBoundsException, IllegalStateException, IllegalArgumentException {
        int first = findBlock(a);
        int second = findBlock(b);
        if (first == NONE || second == NONE) {
            throw new IndexOutOfBoundsException("no such block");
        }
        if (nets.count >= MOST_NETS || nets.isFull(first) || nets.isFull(second)) {
            throw new IllegalStateException("no room for a net");
        }
        if (first == second) {
            throw new IllegalArgumentException("both blocks are the same");
        }
        return nets.append(first, second);
    }

    public int slice(int a, int b, boolean across)
            throws IndexOutOfBoundsException, IllegalStateException, IllegalArgumentException {
        Thing first = findThing(a);
        Thing second = findThing(b);
        if (first == null || second == null) {
            throw new IndexOutOfBoundsException("no such thing");
        }
        if (first.isInSlice || second.isInSlice || thingCount >= MOST_THINGS) {
            throw new IllegalStateException("no room for a slice, or a thing is in one");
        }
        if (first == second) {
            throw new IllegalArgumentException("both things are the same");
        }
        first.isInSlice = true;
        second.isInSlice = true;
        return appendThing(new Thing(NONE, ShapeList.ofSlice(first.list, second.list, across)));
    }

    public int shapes(int node) throws IndexOutOfBoundsException {
        Thing thing = findThing(node);
        if (thing == null) {
            throw new IndexOutOfBoundsException("no such thing");
        }
        return thing.list.count;
    }

    public long shape(int node, int k, int side) throws IndexOutOfBoundsException {
        Thing thing = findThing(node);
        if (thing == null || k < 0 || k >= thing.list.count || side < 0 || side >= AXES) {
            throw new IndexOutOfBoundsException("no such thing, shape or side");
        }
        return side == 0 ? thing.list.widths[k] : thing.list.heights[k];
    }

    public long least(int node) throws IndexOutOfBoundsException {
        Thing thing = findThing(node);
        if (thing == null) {
            throw new IndexOutOfBoundsException("no such thing");
        }
        return thing.list.leastArea();
    }

    public int pair(int tries) throws IllegalArgumentException {
        if (tries < 0 || tries > MOST_TRIES) {
            throw new IllegalArgumentException("tries are not 0 .. 2000");
        }
        if (blocks.count > 0) {
            search.run(tries);
        }
        // Places reach 20000 and 16 sides of 1000 more at most, so an area stays below 2^31.
        return (int) kept.area();
    }

    public long at(int block, int axis) throws IndexOutOfBoundsException {
        int index = findBlock(block);
        if (index == NONE || axis < 0 || axis >= AXES) {
            throw new IndexOutOfBoundsException("no such block or axis");
        }
        return kept.starts[axis][index];
    }

    public boolean turned(int block) throws IndexOutOfBoundsException {
        int index = findBlock(block);
        if (index == NONE) {
            throw new IndexOutOfBoundsException("no such block");
        }
        return kept.isTurned[index];
    }

    public boolean overlap() {
        for (int i = 0; i < blocks.count; i++) {
            for (int j = 0; j < i; j++) {
                if (kept.haveRoomInCommon(i, j)) {
                    return true;
                }
            }
        }
        return false;
    }

    public long wire() {
        return nets.lengthIn(kept);
    }

    public int pin(int block, int side, int k) throws IndexOutOfBoundsException {
        int index = findBlock(block);
        if (index == NONE || side < 0 || side >= SIDES || k < 0 || k >= PINS_AT_A_SIDE) {
            throw new IndexOutOfBoundsException("no such block, side or pin");
        }
        pins.match(index);
        return pins.netAt(side, k);
    }

    public boolean outline(long width, long height) throws IllegalArgumentException {
        if (width < 1L || height < 1L) {
            throw new IllegalArgumentException("a side is below 1");
        }
        return kept.extents[0] <= width && kept.extents[1] <= height;
    }

    private int appendThing(Thing thing) {
        things[thingCount] = thing;
        return thingCount++;
    }

    /** The thing with a number, or null. */
    private Thing findThing(int number) {
        return number < 0 || number >= thingCount ? null : things[number];
    }

    /** The place among the blocks of the thing with a number, or NONE if that is no block. */
    private int findBlock(int number) {
        Thing thing = findThing(number);
        return thing == null ? NONE : thing.block;
    }

    private static boolean isWithin(long value, long least, long greatest) {
        return value >= least && value <= greatest;
    }

    /** A block or a slice, with its shapes. */
    private static final class Thing {
        /** The place among the blocks, NONE for a slice: slices take numbers of things too. */
        final int block;
        final ShapeList list;
        boolean isInSlice;

        Thing(int block, ShapeList list) {
            this.block = block;
            this.list = list;
            this.isInSlice = false;
        }
    }

    /** Shapes none of which is matched by another one, by rising widths (so by falling heights). */
    private static final class ShapeList {
        final int[] widths;
        final int[] heights;
        int count;

        private ShapeList(int room) {
            int length = Math.max(room, 0);
            widths = new int[length];
            heights = new int[length];
            count = 0;
        }

        static ShapeList ofBlock(int width, int height, boolean turns) {
            ShapeList list = new ShapeList(2);
            list.offer(width, height);
            if (turns) {
                list.offer(height, width);
            }
            return list;
        }

        static ShapeList ofSlice(ShapeList a, ShapeList b, boolean across) {
            // The greater of two sides is a side of one of both, and no two shapes that stay
            // share it: so there are never more of them than both lists have together.
            ShapeList list = new ShapeList(a.count + b.count);
            for (int i = 0; i < a.count; i++) {
                for (int j = 0; j < b.count; j++) {
                    if (across) {
                        list.offer(a.widths[i] + b.widths[j], Math.max(a.heights[i], b.heights[j]));
                    } else {
                        list.offer(Math.max(a.widths[i], b.widths[j]), a.heights[i] + b.heights[j]);
                    }
                }
            }
            return list;
        }

        long leastArea() {
            long least = Long.MAX_VALUE;
            for (int i = 0; i < count; i++) {
                least = Math.min(least, (long) widths[i] * heights[i]);
            }
            return least;
        }

        private void offer(int width, int height) {
            if (hasMatchFor(width, height)) {
                return;
            }
            dropMatchedBy(width, height);
            if (count < widths.length) {
                insert(width, height);
            }
        }

        private boolean hasMatchFor(int width, int height) {
            for (int i = 0; i < count; i++) {
                if (widths[i] <= width && heights[i] <= height) {
                    return true;
                }
            }
            return false;
        }

        private void dropMatchedBy(int width, int height) {
            int stay = 0;
            for (int i = 0; i < count; i++) {
                if (widths[i] < width || heights[i] < height) {
                    widths[stay] = widths[i];
                    heights[stay] = heights[i];
                    stay++;
                }
            }
            count = stay;
        }

        private void insert(int width, int height) {
            int place = count;
            while (place > 0 && widths[place - 1] > width) {
                widths[place] = widths[place - 1];
                heights[place] = heights[place - 1];
                place--;
            }
            widths[place] = width;
            heights[place] = height;
            count++;
        }
    }

    /** What was told of the blocks, whatever the plan: rows by axis (0 across, 1 up), then block. */
    private static final class Blocks {
        final int[][] sizes;
        final int[][] told;
        final boolean[] mayTurn;
        final boolean[] isFixed;
        int count;

        Blocks() {
            sizes = new int[AXES][MOST_BLOCKS];
            told = new int[AXES][MOST_BLOCKS];
            mayTurn = new boolean[MOST_BLOCKS];
            isFixed = new boolean[MOST_BLOCKS];
            count = 0;
        }

        int append(int width, int height, boolean turns) {
            sizes[0][count] = width;
            sizes[1][count] = height;
            mayTurn[count] = turns;
            return count++;
        }

        void tell(int block, boolean fixed, int x, int y) {
            isFixed[block] = fixed;
            told[0][block] = x;
            told[1][block] = y;
        }
    }

    /** One order of all blocks, with the way back from a block to its place. */
    private static final class Order {
        final int[] blockAt;
        final int[] placeOf;
        private int count;

        Order() {
            blockAt = new int[MOST_BLOCKS];
            placeOf = new int[MOST_BLOCKS];
            count = 0;
        }

        void append(int block) {
            blockAt[count] = block;
            placeOf[block] = count;
            count++;
        }

        void exchange(int p, int q) {
            int atP = blockAt[p];
            int atQ = blockAt[q];
            blockAt[p] = atQ;
            placeOf[atQ] = p;
            blockAt[q] = atP;
            placeOf[atP] = q;
        }

        void copy(Order from) {
            System.arraycopy(from.blockAt, 0, blockAt, 0, MOST_BLOCKS);
            System.arraycopy(from.placeOf, 0, placeOf, 0, MOST_BLOCKS);
            count = from.count;
        }
    }

    /** Two orders and which blocks are turned, and where that puts the blocks. */
    private static final class Plan {
        private final Blocks blocks;
        private final Order first;
        private final Order second;
        final boolean[] isTurned;
        /** Rows by axis: where blocks begin and end, as last laid out. */
        final int[][] starts;
        private final int[][] ends;
        final int[] extents;

        Plan(Blocks blocks) {
            this.blocks = blocks;
            first = new Order();
            second = new Order();
            isTurned = new boolean[MOST_BLOCKS];
            starts = new int[AXES][MOST_BLOCKS];
            ends = new int[AXES][MOST_BLOCKS];
            extents = new int[AXES];
        }

        void append(int block) {
            first.append(block);
            second.append(block);
            // A block that is last in both orders and not fixed is in nobody's way.
            layOut();
        }

        void copy(Plan from) {
            first.copy(from.first);
            second.copy(from.second);
            // The language's arraycopy is for numbers.
            for (int block = 0; block < MOST_BLOCKS; block++) {
                isTurned[block] = from.isTurned[block];
            }
            for (int axis = 0; axis < AXES; axis++) {
                System.arraycopy(from.starts[axis], 0, starts[axis], 0, MOST_BLOCKS);
                System.arraycopy(from.ends[axis], 0, ends[axis], 0, MOST_BLOCKS);
                extents[axis] = from.extents[axis];
            }
        }

        /** Each of these moves, made twice with the same numbers, is undone. */
        void move(int what, int p, int q) {
            if (what == 0) {
                first.exchange(p, q);
            } else if (what == 1) {
                second.exchange(second.placeOf[first.blockAt[p]], second.placeOf[first.blockAt[q]]);
                first.exchange(p, q);
            } else {
                turnIfAllowed(first.blockAt[p]);
            }
        }

        private void turnIfAllowed(int block) {
            if (blocks.mayTurn[block] && !blocks.isFixed[block]) {
                isTurned[block] = !isTurned[block];
            }
        }

        boolean fixIfStillPlan(int block, int x, int y) {
            boolean wasFixed = blocks.isFixed[block];
            int oldX = blocks.told[0][block];
            int oldY = blocks.told[1][block];
            blocks.tell(block, true, x, y);
            if (layOut()) {
                return true;
            }
            blocks.tell(block, wasFixed, oldX, oldY);
            layOut();
            return false;
        }

        /** Whether this is a plan: if it is not, places are left half told. */
        boolean layOut() {
            return layAlong(0, first, second) && layAlong(1, second, first);
        }

        /**
         * Left of a block are those before it in both orders, below it those before it in the
         * second one and behind it in the first one: so along the order in which all of them come
         * before it, the other order tells which of those before it count.
         */
        private boolean layAlong(int axis, Order along, Order other) {
            int[] blockAt = along.blockAt;
            int[] placeOf = other.placeOf;
            int[] endsHere = ends[axis];
            boolean wantsBefore = axis == 0;
            int extent = 0;
            for (int i = 0; i < blocks.count; i++) {
                int block = blockAt[i];
                int place = placeOf[block];
                int start = 0;
                for (int j = 0; j < i; j++) {
                    int earlier = blockAt[j];
                    boolean isBefore = placeOf[earlier] < place;
                    if (isBefore == wantsBefore && endsHere[earlier] > start) {
                        start = endsHere[earlier];
                    }
                }
                if (blocks.isFixed[block]) {
                    if (start > blocks.told[axis][block]) {
                        return false;
                    }
                    start = blocks.told[axis][block];
                }
                starts[axis][block] = start;
                endsHere[block] = start + sizeOf(block, axis);
                extent = Math.max(extent, endsHere[block]);
            }
            extents[axis] = extent;
            return true;
        }

        private int sizeOf(int block, int axis) {
            return blocks.sizes[isTurned[block] ? 1 - axis : axis][block];
        }

        int blockCount() {
            return blocks.count;
        }

        long area() {
            return (long) extents[0] * extents[1];
        }

        boolean haveRoomInCommon(int a, int b) {
            for (int axis = 0; axis < AXES; axis++) {
                if (ends[axis][a] <= starts[axis][b] || ends[axis][b] <= starts[axis][a]) {
                    return false;
                }
            }
            return true;
        }

        /** In halves, so that it is whole. */
        private int middleOf(int block, int axis) {
            return starts[axis][block] + ends[axis][block];
        }

        int gapOfMiddles(int a, int b) {
            return Math.abs(middleOf(a, 0) - middleOf(b, 0)) + Math.abs(middleOf(a, 1) - middleOf(b, 1));
        }

        /** From the middle of a side (0 left, 1 right, 2 below, 3 above) to another block's middle. */
        int gapOfSide(int block, int side, int other) {
            int axis = side < 2 ? 0 : 1;
            boolean isNear = side == 0 || side == 2;
            int edge = 2 * (isNear ? starts[axis][block] : ends[axis][block]);
            return Math.abs(edge - middleOf(other, axis))
                + Math.abs(middleOf(block, 1 - axis) - middleOf(other, 1 - axis));
        }
    }

    /** The nets, each with its two blocks. */
    private static final class Nets {
        private final int[] firstEnds;
        private final int[] secondEnds;
        private final int[] countOf;
        int count;

        Nets() {
            firstEnds = new int[MOST_NETS];
            secondEnds = new int[MOST_NETS];
            countOf = new int[MOST_BLOCKS];
            count = 0;
        }

        boolean isFull(int block) {
            return countOf[block] >= MOST_NETS_OF_A_BLOCK;
        }

        int append(int a, int b) {
            firstEnds[count] = a;
            secondEnds[count] = b;
            countOf[a]++;
            countOf[b]++;
            return count++;
        }

        /** The other block of a net of this block, NONE if the net is not at this block. */
        int otherEnd(int net, int block) {
            if (firstEnds[net] == block) {
                return secondEnds[net];
            }
            return secondEnds[net] == block ? firstEnds[net] : NONE;
        }

        long lengthIn(Plan plan) {
            long length = 0L;
            for (int net = 0; net < count; net++) {
                length += plan.gapOfMiddles(firstEnds[net], secondEnds[net]);
            }
            return length;
        }
    }

    /** The numbers drawn by chance. */
    private static final class Draws {
        private static final long FACTOR = 6364136223846793005L;
        private static final long STEP = 1442695040888963407L;
        private static final int BITS_BELOW = 33;

        private long state;

        Draws(long seed) {
            state = seed;
        }

        int next(int choices) {
            state = state * FACTOR + STEP;
            int number = (int) (state >>> BITS_BELOW);
            return choices < 1 ? 0 : number % choices;
        }
    }

    /** Moves of a plan at hand, and the best plan met, which is kept. */
    private static final class Search {
        private static final int WHATS = 3;

        private final Plan kept;
        private final Plan atHand;
        private final Nets nets;
        private final Draws draws;
        /** Of the plan at hand: its own places are those of the last try, taken or not. */
        private long areaAtHand;
        private long keptWire;

        Search(Plan kept, Plan atHand, Nets nets, Draws draws) {
            this.kept = kept;
            this.atHand = atHand;
            this.nets = nets;
            this.draws = draws;
            this.areaAtHand = 0L;
            this.keptWire = 0L;
        }

        void run(int tries) {
            long areaAtStart = kept.area();
            int blockCount = kept.blockCount();
            atHand.copy(kept);
            areaAtHand = areaAtStart;
            keptWire = nets.lengthIn(kept);
            for (int i = 0; i < tries; i++) {
                int what = draws.next(WHATS);
                int p = draws.next(blockCount);
                int q = draws.next(blockCount);
                long allowance = areaAtStart * (tries - 1 - i) / (4L * tries);
                attempt(what, p, q, areaAtHand + allowance);
            }
        }

        private void attempt(int what, int p, int q, long mostArea) {
            atHand.move(what, p, q);
            if (atHand.layOut() && atHand.area() <= mostArea) {
                areaAtHand = atHand.area();
                keepIfBetter();
            } else {
                atHand.move(what, p, q);
            }
        }

        private void keepIfBetter() {
            if (areaAtHand > kept.area()) {
                return;
            }
            long wireAtHand = nets.lengthIn(atHand);
            if (areaAtHand < kept.area() || wireAtHand < keptWire) {
                kept.copy(atHand);
                keptWire = wireAtHand;
            }
        }
    }

    /** The least matching of one block's nets with its sides. */
    private static final class Pins {
        /** How many pins are at each side, 0 .. 2, as the digits of one number to base 3. */
        private static final int FILLINGS = 81;
        private static final int[] ONE_AT_SIDE = {1, 3, 9, 27};
        private static final int FULL = 2;
        /** Above every sum of 8 costs, and far from the end of int with one more added. */
        private static final int IMPOSSIBLE = 1 << 28;

        private final Plan plan;
        private final Nets nets;
        private final int[] netNumbers;
        private final int[] sides;
        private final int[][] costs;
        /** The least cost of nets k and up, by k and by how the nets before them fill the sides. */
        private final int[][] leastCosts;
        private int count;

        Pins(Plan plan, Nets nets) {
            this.plan = plan;
            this.nets = nets;
            netNumbers = new int[MOST_NETS_OF_A_BLOCK];
            sides = new int[MOST_NETS_OF_A_BLOCK];
            costs = new int[MOST_NETS_OF_A_BLOCK][SIDES];
            leastCosts = new int[MOST_NETS_OF_A_BLOCK + 1][FILLINGS];
            count = 0;
        }

        void match(int block) {
            gather(block);
            for (int filling = 0; filling < FILLINGS; filling++) {
                leastCosts[count][filling] = 0;
            }
            for (int k = count - 1; k >= 0; k--) {
                for (int filling = 0; filling < FILLINGS; filling++) {
                    leastCosts[k][filling] = leastCost(k, filling);
                }
            }
            choose();
        }

        /** The k-th net with its pin at a side, or NONE. */
        int netAt(int side, int k) {
            int met = 0;
            for (int i = 0; i < count; i++) {
                if (sides[i] == side) {
                    if (met == k) {
                        return netNumbers[i];
                    }
                    met++;
                }
            }
            return NONE;
        }

        private void gather(int block) {
            count = 0;
            for (int net = 0; net < nets.count && count < MOST_NETS_OF_A_BLOCK; net++) {
                int other = nets.otherEnd(net, block);
                if (other != NONE) {
                    netNumbers[count] = net;
                    for (int side = 0; side < SIDES; side++) {
                        costs[count][side] = plan.gapOfSide(block, side, other);
                    }
                    count++;
                }
            }
        }

        private int leastCost(int k, int filling) {
            int least = IMPOSSIBLE;
            for (int side = 0; side < SIDES; side++) {
                least = Math.min(least, costWith(k, filling, side));
            }
            return least;
        }

        private int costWith(int k, int filling, int side) {
            int one = ONE_AT_SIDE[side];
            if (filling / one % 3 == FULL) {
                return IMPOSSIBLE;
            }
            return costs[k][side] + leastCosts[k + 1][filling + one];
        }

        /** From the least net up, each takes the least side that still leads to the least sum. */
        private void choose() {
            int filling = 0;
            for (int k = 0; k < count; k++) {
                int side = 0;
                while (side < SIDES - 1 && costWith(k, filling, side) != leastCosts[k][filling]) {
                    side++;
                }
                sides[k] = side;
                filling += ONE_AT_SIDE[side];
            }
        }
    }
}
