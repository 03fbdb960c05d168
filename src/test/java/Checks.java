import java.lang.reflect.InvocationTargetException;
import java.lang.reflect.Method;
import java.lang.reflect.Modifier;
import java.util.ArrayList;
import java.util.Comparator;
import java.util.List;

/** Counts what is not as due, and ends a test with exit code 1 if there was any of it. */
final class Checks {
    /** A call whose answer is told as a text. */
    interface Call {
        Object answer();
    }

    private final String title;
    private final List<String> faults = new ArrayList<>();
    private String caseName = "";
    private int count;
    private int caseCount;

    Checks(String title) {
        this.title = title;
    }

    /** The answer of a call: its value, or "throws." and the name of what it throws. */
    static String answerOf(Call call) {
        try {
            return String.valueOf(call.answer());
        } catch (RuntimeException thrown) {
            return "throws." + thrown.getClass().getSimpleName();
        }
    }

    void due(String what, Object want, Call call) {
        count++;
        String got = answerOf(call);
        if (!got.equals(String.valueOf(want))) {
            faults.add(caseName + what + " answered " + got + ", due is " + want);
        }
    }

    void noState(String what, Call call) {
        due(what, "throws.IllegalStateException", call);
    }

    void noArgument(String what, Call call) {
        due(what, "throws.IllegalArgumentException", call);
    }

    void noIndex(String what, Call call) {
        due(what, "throws.IndexOutOfBoundsException", call);
    }

    boolean hasFaults() {
        return !faults.isEmpty();
    }

    /** Runs every case of a test, so that none is forgotten: a case is named promise7_.. or terms_.. */
    void runCases(Class<?> test) {
        List<Method> cases = new ArrayList<>();
        for (Method method : test.getDeclaredMethods()) {
            if (method.getName().matches("(promise\\d+|terms)_\\w+") && Modifier.isStatic(method.getModifiers())) {
                cases.add(method);
            }
        }
        cases.sort(Comparator.comparing(Method::getName));
        for (Method method : cases) {
            runCase(method);
        }
        caseName = "";
        due("cases were found", true, () -> caseCount > 0);
        end();
    }

    private void runCase(Method method) {
        caseName = method.getName() + ": ";
        int before = count;
        caseCount++;
        try {
            method.invoke(null);
        } catch (InvocationTargetException ended) {
            faults.add(caseName + "ended with " + ended.getCause());
        } catch (IllegalAccessException hidden) {
            faults.add(caseName + "cannot be called: is it private?");
        }
        if (count == before) {
            faults.add(caseName + "asks nothing");
        }
    }

    void end() {
        for (String fault : faults) {
            System.out.println(title + ": " + fault);
        }
        String cases = caseCount == 0 ? "" : caseCount + " cases, ";
        System.out.println(title + ": " + cases + count + " answers, " + faults.size() + " not as due");
        if (!faults.isEmpty()) {
            System.exit(1);
        }
    }
}
