import java.util.ArrayList;
import java.util.List;
import java.util.Random;

/** Runs of calls by chance: each answer is the model's. */
public final class ModelTest {
    private static final Checks CHECKS = new Checks("ModelTest");
    private static final int RUNS = 400;
    private static final int FULL_RUNS = 12;
    private static final int MOST_CALLS = 512;
    private static final int MOST_TRIES = 2000;

    private final Random chance;
    private final SliceBlocks real;
    private final FloorModel model;
    private final List<String> calls = new ArrayList<>();
    private final long longestSide;
    private final int mostTries;

    private ModelTest(long seed) {
        chance = new Random(seed);
        long drawSeed = chance.nextInt(4) == 0 ? chance.nextInt(5) - 2 : chance.nextLong();
        real = new SliceBlocks(drawSeed);
        model = new FloorModel(drawSeed);
        calls.add("new SliceBlocks(" + drawSeed + "L)");
        // Small sides make plans alike, so that ties decide.
        longestSide = new long[] {2, 6, 40, 1000}[chance.nextInt(4)];
        mostTries = new int[] {3, 20, 60}[chance.nextInt(3)];
    }

    public static void main(String[] args) {
        for (long seed = 0; seed < RUNS && !CHECKS.hasFaults(); seed++) {
            new ModelTest(seed).run();
        }
        for (long seed = RUNS; seed < RUNS + FULL_RUNS && !CHECKS.hasFaults(); seed++) {
            new ModelTest(seed).fullRun();
        }
        CHECKS.end();
    }

    private void run() {
        int blocks = 1 + chance.nextInt(17);
        int length = 60 + chance.nextInt(140);
        for (int i = 0; i < length && !CHECKS.hasFaults(); i++) {
            if (chance.nextInt(length) < 2 * blocks) {
                block();
            } else {
                other();
            }
        }
        closeLook();
    }

    /** As many blocks, slices, nets, tries and calls as one object may have. */
    private void fullRun() {
        // Some calls have wrong sides, or the same block twice: so there are more than it takes.
        for (int i = 0; i < 2 * Floors.MOST_BLOCKS && !CHECKS.hasFaults(); i++) {
            block();
        }
        for (int i = 0; i < Floors.MOST_THINGS_THERE_CAN_BE && !CHECKS.hasFaults(); i += 2) {
            slice(i, i + 1);
        }
        for (int i = 0; i < 2 * Floors.MOST_NETS && !CHECKS.hasFaults(); i++) {
            net();
        }
        for (int i = 0; i < 4 && !CHECKS.hasFaults(); i++) {
            fix();
            pair(MOST_TRIES);
        }
        CHECKS.due("the last slice is there", true, () -> wasAnswered("slice.* -> 30"));
        CHECKS.due("the last net is there", true, () -> wasAnswered("net.* -> 39"));
        while (calls.size() <= MOST_CALLS && !CHECKS.hasFaults()) {
            look();
        }
    }

    private boolean wasAnswered(String pattern) {
        return calls.stream().anyMatch(call -> call.matches(pattern));
    }

    private void look() {
        int block = chance.nextInt(Floors.MOST_BLOCKS);
        switch (chance.nextInt(5)) {
            case 0: placeOf(block, chance.nextInt(2)); break;
            case 1: turned(block); break;
            case 2: pin(block, chance.nextInt(4), chance.nextInt(2)); break;
            case 3: outline(); break;
            default: shape(chance.nextInt(Floors.MOST_THINGS_THERE_CAN_BE), small(), chance.nextInt(2)); break;
        }
    }

    /** Everything that can be asked, of every block. */
    private void closeLook() {
        for (int number = 0; number < 32 && !CHECKS.hasFaults(); number++) {
            shapesOf(number);
            placeOf(number, 0);
            placeOf(number, 1);
            turned(number);
            for (int side = 0; side < 4 && number < 4; side++) {
                pin(number, side, 0);
                pin(number, side, 1);
            }
        }
    }

    private void other() {
        switch (chance.nextInt(14)) {
            case 0: fix(); break;
            case 1: case 2: case 3: net(); break;
            case 4: case 5: slice(); break;
            case 6: shapesOf(number()); break;
            case 7: shape(number(), small(), small()); break;
            case 8: pair(); break;
            case 9: placeOf(number(), small()); break;
            case 10: turned(number()); break;
            case 11: whole(); break;
            case 12: outline(); break;
            default: pin(number(), small(), small()); break;
        }
    }

    private int number() {
        return chance.nextInt(12) == 0 ? chance.nextInt(60) - 10 : chance.nextInt(16);
    }

    private int small() {
        return chance.nextInt(12) == 0 ? chance.nextInt(12) - 6 : chance.nextInt(2);
    }

    private long side() {
        return chance.nextInt(40) == 0 ? chance.nextInt(3) * 1000L : 1 + (long) (chance.nextDouble() * longestSide);
    }

    private void same(String call, Checks.Call got, Checks.Call want) {
        String due = Checks.answerOf(want);
        calls.add(call + " -> " + due);
        CHECKS.due(call, due, got);
        if (CHECKS.hasFaults()) {
            calls.forEach(System.out::println);
        }
    }

    private void block() {
        long width = side();
        long height = side();
        boolean turns = chance.nextBoolean();
        same("block(" + width + ", " + height + ", " + turns + ")",
            () -> real.block(width, height, turns), () -> model.block(width, height, turns));
    }

    private void fix() {
        int block = number();
        long most = chance.nextInt(10) == 0 ? 20002 : 3 * longestSide + 1;
        long x = (long) (chance.nextDouble() * Math.min(most, 20002)) - chance.nextInt(20) / 19;
        long y = (long) (chance.nextDouble() * Math.min(most, 20002)) - chance.nextInt(20) / 19;
        same("fix(" + block + ", " + x + ", " + y + ")", () -> real.fix(block, x, y), () -> model.fix(block, x, y));
    }

    private void net() {
        int a = number();
        int b = number();
        same("net(" + a + ", " + b + ")", () -> real.net(a, b), () -> model.net(a, b));
    }

    private void slice() {
        slice(chance.nextInt(32), chance.nextInt(32));
    }

    private void slice(int a, int b) {
        boolean across = chance.nextBoolean();
        same("slice(" + a + ", " + b + ", " + across + ")",
            () -> real.slice(a, b, across), () -> model.slice(a, b, across));
    }

    private void shapesOf(int node) {
        same("shapes(" + node + ")", () -> real.shapes(node), () -> model.shapes(node));
        same("least(" + node + ")", () -> real.least(node), () -> model.least(node));
        String count = Checks.answerOf(() -> model.shapes(node));
        for (int k = 0; !count.startsWith("throws") && k <= Integer.parseInt(count); k++) {
            shape(node, k, 0);
            shape(node, k, 1);
        }
    }

    private void shape(int node, int k, int side) {
        same("shape(" + node + ", " + k + ", " + side + ")",
            () -> real.shape(node, k, side), () -> model.shape(node, k, side));
    }

    private void pair() {
        pair(chance.nextInt(30) == 0 ? chance.nextInt(3) * 1001 - 1 : chance.nextInt(mostTries + 1));
    }

    private void pair(int tries) {
        same("pair(" + tries + ")", () -> real.pair(tries), () -> model.pair(tries));
        whole();
    }

    private void placeOf(int block, int axis) {
        same("at(" + block + ", " + axis + ")", () -> real.at(block, axis), () -> model.at(block, axis));
    }

    private void turned(int block) {
        same("turned(" + block + ")", () -> real.turned(block), () -> model.turned(block));
    }

    private void whole() {
        same("overlap()", () -> real.overlap(), () -> model.overlap());
        same("wire()", () -> real.wire(), () -> model.wire());
    }

    private void outline() {
        long width = (long) (chance.nextDouble() * longestSide * 16) - chance.nextInt(20) / 19;
        long height = (long) (chance.nextDouble() * longestSide * 16);
        same("outline(" + width + ", " + height + ")",
            () -> real.outline(width, height), () -> model.outline(width, height));
    }

    private void pin(int block, int side, int k) {
        same("pin(" + block + ", " + side + ", " + k + ")",
            () -> real.pin(block, side, k), () -> model.pin(block, side, k));
    }
}
