import java.math.BigInteger;
import java.util.ArrayList;
import java.util.Collections;
import java.util.List;
import java.util.TreeSet;

/**
 * What the document says, as slowly and as literally as can be: plans are copied for every try,
 * places follow their definition by recursion, pins are the first best of all ways to place them.
 */
final class FloorModel {
    private static final BigInteger FACTOR = new BigInteger("6364136223846793005");
    private static final BigInteger STEP = new BigInteger("1442695040888963407");
    private static final BigInteger WRAP = BigInteger.ONE.shiftLeft(64);

    /** Ordered by width, then height. */
    private static final class Shape implements Comparable<Shape> {
        final long width;
        final long height;

        Shape(long width, long height) {
            this.width = width;
            this.height = height;
        }

        @Override
        public int compareTo(Shape other) {
            return width != other.width ? Long.compare(width, other.width) : Long.compare(height, other.height);
        }
    }

    private static final class Thing {
        boolean isBlock;
        long width;
        long height;
        boolean turns;
        boolean fixed;
        long fixedX;
        long fixedY;
        Thing parent;
        List<Shape> shapes;
    }

    private final class Plan {
        List<Thing> first = new ArrayList<>();
        List<Thing> second = new ArrayList<>();
        List<Thing> turned = new ArrayList<>();

        Plan copy() {
            Plan plan = new Plan();
            plan.first.addAll(first);
            plan.second.addAll(second);
            plan.turned.addAll(turned);
            return plan;
        }

        long width(Thing block) {
            return turned.contains(block) ? block.height : block.width;
        }

        long height(Thing block) {
            return turned.contains(block) ? block.width : block.height;
        }

        boolean isLeft(Thing a, Thing b) {
            return first.indexOf(a) < first.indexOf(b) && second.indexOf(a) < second.indexOf(b);
        }

        boolean isBelow(Thing a, Thing b) {
            return first.indexOf(a) > first.indexOf(b) && second.indexOf(a) < second.indexOf(b);
        }
    }

    /** The places of one plan, told or not yet. */
    private final class Places {
        final Plan plan;
        final Long[] xs;
        final Long[] ys;
        boolean isPlan = true;

        Places(Plan plan) {
            this.plan = plan;
            xs = new Long[blocks.size()];
            ys = new Long[blocks.size()];
            for (Thing block : blocks) {
                x(block);
                y(block);
            }
        }

        long x(Thing block) {
            int i = blocks.indexOf(block);
            if (xs[i] == null) {
                long most = 0;
                for (Thing other : blocks) {
                    if (plan.isLeft(other, block)) {
                        most = Math.max(most, x(other) + plan.width(other));
                    }
                }
                if (block.fixed && most > block.fixedX) {
                    isPlan = false;
                }
                xs[i] = block.fixed ? block.fixedX : most;
            }
            return xs[i];
        }

        long y(Thing block) {
            int i = blocks.indexOf(block);
            if (ys[i] == null) {
                long most = 0;
                for (Thing other : blocks) {
                    if (plan.isBelow(other, block)) {
                        most = Math.max(most, y(other) + plan.height(other));
                    }
                }
                if (block.fixed && most > block.fixedY) {
                    isPlan = false;
                }
                ys[i] = block.fixed ? block.fixedY : most;
            }
            return ys[i];
        }

        long wide() {
            long most = 0;
            for (Thing block : blocks) {
                most = Math.max(most, x(block) + plan.width(block));
            }
            return most;
        }

        long high() {
            long most = 0;
            for (Thing block : blocks) {
                most = Math.max(most, y(block) + plan.height(block));
            }
            return most;
        }

        long middleX(Thing block) {
            return 2 * x(block) + plan.width(block);
        }

        long middleY(Thing block) {
            return 2 * y(block) + plan.height(block);
        }

        long wire() {
            long sum = 0;
            for (Thing[] net : nets) {
                sum += Math.abs(middleX(net[0]) - middleX(net[1])) + Math.abs(middleY(net[0]) - middleY(net[1]));
            }
            return sum;
        }

        long sideCost(Thing block, int side, Thing other) {
            long sideX = middleX(block);
            long sideY = middleY(block);
            switch (side) {
                case 0: sideX = 2 * x(block); break;
                case 1: sideX = 2 * x(block) + 2 * plan.width(block); break;
                case 2: sideY = 2 * y(block); break;
                default: sideY = 2 * y(block) + 2 * plan.height(block); break;
            }
            return Math.abs(sideX - middleX(other)) + Math.abs(sideY - middleY(other));
        }
    }

    private final List<Thing> things = new ArrayList<>();
    private final List<Thing> blocks = new ArrayList<>();
    private final List<Thing[]> nets = new ArrayList<>();
    private Plan kept = new Plan();
    private BigInteger state;

    FloorModel(long seed) {
        state = BigInteger.valueOf(seed).mod(WRAP);
    }

    private boolean isThing(int number) {
        return number >= 0 && number < things.size();
    }

    private boolean isBlock(int number) {
        return isThing(number) && things.get(number).isBlock;
    }

    private static void refuse(boolean wrong, String name) {
        if (wrong && name.equals("state")) {
            throw new IllegalStateException();
        }
        if (wrong && name.equals("argument")) {
            throw new IllegalArgumentException();
        }
        if (wrong) {
            throw new IndexOutOfBoundsException();
        }
    }

    int block(long width, long height, boolean turns) {
        refuse(blocks.size() == 16 || things.size() == 40, "state");
        refuse(width < 1 || width > 1000 || height < 1 || height > 1000, "argument");
        Thing block = new Thing();
        block.isBlock = true;
        block.width = width;
        block.height = height;
        block.turns = turns;
        List<Shape> all = new ArrayList<>();
        all.add(new Shape(width, height));
        if (turns) {
            all.add(new Shape(height, width));
        }
        block.shapes = least(all);
        things.add(block);
        blocks.add(block);
        kept.first.add(block);
        kept.second.add(block);
        return things.size() - 1;
    }

    boolean fix(int number, long x, long y) {
        refuse(!isBlock(number), "index");
        refuse(x < 0 || x > 20000 || y < 0 || y > 20000, "argument");
        Thing block = things.get(number);
        boolean fixed = block.fixed;
        long oldX = block.fixedX;
        long oldY = block.fixedY;
        block.fixed = true;
        block.fixedX = x;
        block.fixedY = y;
        if (new Places(kept).isPlan) {
            return true;
        }
        block.fixed = fixed;
        block.fixedX = oldX;
        block.fixedY = oldY;
        return false;
    }

    private int netsOf(Thing block) {
        int count = 0;
        for (Thing[] net : nets) {
            if (net[0] == block || net[1] == block) {
                count++;
            }
        }
        return count;
    }

    int net(int a, int b) {
        refuse(!isBlock(a) || !isBlock(b), "index");
        Thing[] net = {things.get(a), things.get(b)};
        refuse(nets.size() == 40 || netsOf(net[0]) == 8 || netsOf(net[1]) == 8, "state");
        refuse(a == b, "argument");
        nets.add(net);
        return nets.size() - 1;
    }

    int slice(int a, int b, boolean across) {
        refuse(!isThing(a) || !isThing(b), "index");
        Thing first = things.get(a);
        Thing second = things.get(b);
        refuse(first.parent != null || second.parent != null || things.size() == 40, "state");
        refuse(a == b, "argument");
        Thing slice = new Thing();
        List<Shape> all = new ArrayList<>();
        for (Shape s : first.shapes) {
            for (Shape t : second.shapes) {
                all.add(across ? new Shape(s.width + t.width, Math.max(s.height, t.height))
                    : new Shape(Math.max(s.width, t.width), s.height + t.height));
            }
        }
        slice.shapes = least(all);
        first.parent = slice;
        second.parent = slice;
        things.add(slice);
        return things.size() - 1;
    }

    private static List<Shape> least(List<Shape> all) {
        TreeSet<Shape> different = new TreeSet<>(all);
        List<Shape> stay = new ArrayList<>();
        for (Shape shape : different) {
            boolean isMatched = false;
            for (Shape other : different) {
                isMatched |= other != shape && other.width <= shape.width && other.height <= shape.height;
            }
            if (!isMatched) {
                stay.add(shape);
            }
        }
        return stay;
    }

    int shapes(int node) {
        refuse(!isThing(node), "index");
        return things.get(node).shapes.size();
    }

    long shape(int node, int k, int side) {
        refuse(!isThing(node) || k < 0 || k >= things.get(node).shapes.size() || side < 0 || side > 1, "index");
        Shape shape = things.get(node).shapes.get(k);
        return side == 0 ? shape.width : shape.height;
    }

    long least(int node) {
        refuse(!isThing(node), "index");
        return things.get(node).shapes.stream().mapToLong(shape -> shape.width * shape.height).min().getAsLong();
    }

    private int draw(int choices) {
        state = state.multiply(FACTOR).add(STEP).mod(WRAP);
        return state.shiftRight(33).mod(BigInteger.valueOf(choices)).intValue();
    }

    int pair(int tries) {
        refuse(tries < 0 || tries > 2000, "argument");
        if (blocks.isEmpty()) {
            return 0;
        }
        Places keptPlaces = new Places(kept);
        long began = keptPlaces.wide() * keptPlaces.high();
        Plan atHand = kept;
        long areaAtHand = began;
        long keptArea = began;
        long keptWire = keptPlaces.wire();
        for (int i = 0; i < tries; i++) {
            Plan next = moved(atHand);
            Places places = new Places(next);
            long area = places.wide() * places.high();
            long allowance = BigInteger.valueOf(began).multiply(BigInteger.valueOf(tries - 1 - i))
                .divide(BigInteger.valueOf(4L * tries)).longValueExact();
            if (!places.isPlan) {
                continue;
            }
            if (area <= areaAtHand + allowance) {
                atHand = next;
                areaAtHand = area;
            }
            if (area < keptArea || area == keptArea && places.wire() < keptWire) {
                kept = next;
                keptArea = area;
                keptWire = places.wire();
            }
        }
        return Math.toIntExact(keptArea);
    }

    private Plan moved(Plan plan) {
        Plan next = plan.copy();
        int what = draw(3);
        int p = draw(blocks.size());
        int q = draw(blocks.size());
        Thing atP = next.first.get(p);
        Thing atQ = next.first.get(q);
        if (what == 0) {
            Collections.swap(next.first, p, q);
        } else if (what == 1) {
            Collections.replaceAll(next.first, atP, null);
            Collections.replaceAll(next.first, atQ, atP);
            Collections.replaceAll(next.first, null, atP == atQ ? atP : atQ);
            Collections.swap(next.second, next.second.indexOf(atP), next.second.indexOf(atQ));
        } else if (atP.turns && !atP.fixed && !next.turned.remove(atP)) {
            next.turned.add(atP);
        }
        return next;
    }

    long at(int number, int axis) {
        refuse(!isBlock(number) || axis < 0 || axis > 1, "index");
        Places places = new Places(kept);
        return axis == 0 ? places.x(things.get(number)) : places.y(things.get(number));
    }

    boolean turned(int number) {
        refuse(!isBlock(number), "index");
        return kept.turned.contains(things.get(number));
    }

    boolean overlap() {
        Places places = new Places(kept);
        for (Thing a : blocks) {
            for (Thing b : blocks) {
                if (a != b && Math.max(places.x(a), places.x(b))
                        < Math.min(places.x(a) + kept.width(a), places.x(b) + kept.width(b))
                    && Math.max(places.y(a), places.y(b))
                        < Math.min(places.y(a) + kept.height(a), places.y(b) + kept.height(b))) {
                    return true;
                }
            }
        }
        return false;
    }

    long wire() {
        return new Places(kept).wire();
    }

    int pin(int number, int side, int k) {
        refuse(!isBlock(number) || side < 0 || side > 3 || k < 0 || k > 1, "index");
        Thing block = things.get(number);
        Places places = new Places(kept);
        List<Integer> own = new ArrayList<>();
        List<long[]> costs = new ArrayList<>();
        for (int net = 0; net < nets.size(); net++) {
            Thing[] ends = nets.get(net);
            if (ends[0] == block || ends[1] == block) {
                own.add(net);
                long[] cost = new long[4];
                for (int s = 0; s < 4; s++) {
                    cost[s] = places.sideCost(block, s, ends[0] == block ? ends[1] : ends[0]);
                }
                costs.add(cost);
            }
        }
        int[] sides = firstBest(costs);
        int met = 0;
        for (int i = 0; i < own.size(); i++) {
            if (sides[i] == side && met++ == k) {
                return own.get(i);
            }
        }
        return -1;
    }

    /** All ways to give sides, the least sides of the least nets first: the first best one. */
    private static int[] firstBest(List<long[]> costs) {
        int n = costs.size();
        int[] best = null;
        long bestSum = Long.MAX_VALUE;
        for (int way = 0; way < 1 << (2 * n); way++) {
            int[] sides = new int[n];
            int[] filled = new int[4];
            long sum = 0;
            boolean fits = true;
            for (int i = 0; i < n; i++) {
                sides[i] = way >> (2 * (n - 1 - i)) & 3;
                fits &= ++filled[sides[i]] <= 2;
                sum += costs.get(i)[sides[i]];
            }
            if (fits && sum < bestSum) {
                bestSum = sum;
                best = sides;
            }
        }
        return best;
    }

    boolean outline(long width, long height) {
        refuse(width < 1 || height < 1, "argument");
        Places places = new Places(kept);
        return places.wide() <= width && places.high() <= height;
    }
}
