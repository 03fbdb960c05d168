import java.util.ArrayList;
import java.util.List;

/** Counts what is not as due, and ends a test with exit code 1 if there was any of it. */
final class Checks {
    /** A call whose answer is told as a text. */
    interface Call {
        Object answer();
    }

    private final String title;
    private final List<String> faults = new ArrayList<>();
    private int count;

    Checks(String title) {
        this.title = title;
    }

    /** The answer of a call: its value, or "throws." and the name of what it throws. */
    static String answerOf(Call call) {
        try {
            return String.valueOf(call.answer());
        } catch (RuntimeException thrown) {
            return "throws." + thrown.getClass().getSimpleName();
        }
    }

    void due(String what, Object want, Call call) {
        count++;
        String got = answerOf(call);
        if (!got.equals(String.valueOf(want))) {
            faults.add(what + " answered " + got + ", due is " + want);
        }
    }

    void noState(String what, Call call) {
        due(what, "throws.IllegalStateException", call);
    }

    void noArgument(String what, Call call) {
        due(what, "throws.IllegalArgumentException", call);
    }

    void noIndex(String what, Call call) {
        due(what, "throws.IndexOutOfBoundsException", call);
    }

    boolean hasFaults() {
        return !faults.isEmpty();
    }

    void end() {
        for (String fault : faults) {
            System.out.println(title + ": " + fault);
        }
        System.out.println(title + ": " + count + " answers, " + faults.size() + " not as due");
        if (!faults.isEmpty()) {
            System.exit(1);
        }
    }
}
