import java.util.ArrayList;
import java.util.List;

/**
 * Pairs of objects with the same calls behind them, of which one also gets a call that may change
 * nothing: whatever is asked later, both have to answer the same.
 */
final class Twins {
    /** The calls that both have behind them. */
    interface Maker {
        SliceBlocks made();
    }

    /** The call that only one of them gets. */
    interface Ask {
        Object of(SliceBlocks x);
    }

    private interface Later {
        void ask(Twins.Told told);
    }

    /** With the calls of the maker (some 130 at most), an object stays within its 512 calls. */
    private static final int MOST_CALLS = 370;
    private static final int NUMBERS = Floors.MOST_THINGS_THERE_CAN_BE + 1;

    private static final Later[] ALL = {
        Twins::thingsShown, Twins::planShown, Twins::triesLater, Twins::thingsLater, Twins::netsLater,
        Twins::fixesLater,
    };

    private final Checks checks;
    private final Maker maker;

    Twins(Checks checks, Maker maker) {
        this.checks = checks;
        this.maker = maker;
    }

    /** The call answers what is due, and no later call shows that it was made. */
    void leavesNothing(String what, Object want, Ask ask) {
        for (Later later : ALL) {
            SliceBlocks asked = maker.made();
            checks.due(what, want, () -> ask.of(asked));
            Told got = new Told(asked);
            Told due = new Told(maker.made());
            later.ask(got);
            later.ask(due);
            compare("behind " + what + ", ", got, due);
        }
    }

    /** Up to the first difference: behind it, both may have been asked something else. */
    private void compare(String behind, Told got, Told due) {
        for (int i = 0; i < due.answers.size(); i++) {
            String answer = i < got.answers.size() ? got.answers.get(i) : "nothing";
            checks.due(behind + due.calls.get(i), due.answers.get(i), () -> answer);
            if (!answer.equals(due.answers.get(i))) {
                return;
            }
        }
    }

    void noState(String what, Ask ask) {
        leavesNothing(what, "throws.IllegalStateException", ask);
    }

    void noArgument(String what, Ask ask) {
        leavesNothing(what, "throws.IllegalArgumentException", ask);
    }

    void noIndex(String what, Ask ask) {
        leavesNothing(what, "throws.IndexOutOfBoundsException", ask);
    }

    /** Calls of one object, with their answers. */
    private static final class Told {
        final SliceBlocks x;
        final List<String> calls = new ArrayList<>();
        final List<String> answers = new ArrayList<>();

        Told(SliceBlocks x) {
            this.x = x;
        }

        /** Whether the call was answered without an exception. */
        boolean ask(String call, Checks.Call asked) {
            if (calls.size() >= MOST_CALLS) {
                return false;
            }
            calls.add(call);
            answers.add(Checks.answerOf(asked));
            return !answers.get(answers.size() - 1).startsWith("throws");
        }
    }

    private static void thingsShown(Told told) {
        for (int node = 0; node < NUMBERS; node++) {
            int n = node;
            told.ask("shapes(" + n + ")", () -> told.x.shapes(n));
            told.ask("least(" + n + ")", () -> told.x.least(n));
            boolean isThere = true;
            for (int k = 0; isThere; k++) {
                int number = k;
                isThere = told.ask("shape(" + n + ", " + k + ", 0)", () -> told.x.shape(n, number, 0))
                    && told.ask("shape(" + n + ", " + k + ", 1)", () -> told.x.shape(n, number, 1));
            }
        }
    }

    private static void placesShown(Told told) {
        for (int block = 0; block < NUMBERS; block++) {
            int n = block;
            if (told.ask("at(" + n + ", 0)", () -> told.x.at(n, 0))) {
                told.ask("at(" + n + ", 1)", () -> told.x.at(n, 1));
                told.ask("turned(" + n + ")", () -> told.x.turned(n));
            }
        }
        told.ask("wire()", () -> told.x.wire());
    }

    private static void planShown(Told told) {
        placesShown(told);
        told.ask("overlap()", () -> told.x.overlap());
        told.ask("pair(0)", () -> told.x.pair(0));
        for (int block = 0; block < NUMBERS; block++) {
            int n = block;
            for (int i = 0; i < 8; i++) {
                int side = i / 2;
                int k = i % 2;
                if (!told.ask("pin(" + n + ", " + side + ", " + k + ")", () -> told.x.pin(n, side, k))) {
                    break;
                }
            }
        }
        for (long side = 1; side < 40000; side *= 2) {
            long size = side;
            told.ask("outline(" + size + ", 40000)", () -> told.x.outline(size, 40000));
            told.ask("outline(40000, " + size + ")", () -> told.x.outline(40000, size));
        }
    }

    private static void triesLater(Told told) {
        for (int tries : new int[] {1, 3, 40, 400}) {
            told.ask("pair(" + tries + ")", () -> told.x.pair(tries));
            placesShown(told);
        }
    }

    private static void thingsLater(Told told) {
        // A thing with itself: which of three exceptions comes tells all that slices know of it.
        for (int node = 0; node < NUMBERS; node++) {
            int n = node;
            told.ask("slice(" + n + ", " + n + ")", () -> told.x.slice(n, n, true));
        }
        for (int i = 0; i <= Floors.MOST_BLOCKS; i++) {
            int width = 3 + i;
            told.ask("block(" + width + ", 7, true)", () -> told.x.block(width, 7, true));
        }
        for (int node = 0; node < NUMBERS; node++) {
            int n = node;
            told.ask("slice(" + n + ", " + (n + 1) + ")", () -> told.x.slice(n, n + 1, n % 2 == 0));
        }
        thingsShown(told);
    }

    private static void netsLater(Told told) {
        for (int block = 0; block < NUMBERS; block++) {
            int n = block;
            told.ask("net(" + n + ", " + n + ")", () -> told.x.net(n, n));
        }
        for (int i = 0; i < 9 * NUMBERS; i++) {
            int n = i / 9;
            told.ask("net(" + n + ", " + (n + 1) + ")", () -> told.x.net(n, n + 1));
        }
        told.ask("wire()", () -> told.x.wire());
    }

    private static void fixesLater(Told told) {
        for (long place : new long[] {0, 4, 30}) {
            for (int block = 0; block < NUMBERS; block++) {
                int n = block;
                told.ask("fix(" + n + ", " + place + ", " + place + ")", () -> told.x.fix(n, place, place));
            }
            placesShown(told);
        }
        told.ask("pair(100)", () -> told.x.pair(100));
        placesShown(told);
    }
}
