import java.util.ArrayList;
import java.util.List;

/** Runs named tests and prints a line for each: "passed NAME", or "failed NAME" behind the answers that were not due. */
final class Due {

    interface Test {
        void run(Due due);
    }

    private final List<String> wrong = new ArrayList<>();

    void is(String call, long got, long want) {
        if (got != want) {
            wrong.add(call + " answered " + got + ", due is " + want);
        }
    }

    void holds(String what, boolean so) {
        if (!so) {
            wrong.add(what);
        }
    }

    static boolean test(String name, Test test) {
        Due due = new Due();
        try {
            test.run(due);
        } catch (RuntimeException | Error thrown) {
            due.wrong.add("threw " + thrown);
        }
        int shown = 0;
        for (String line : due.wrong) {
            if (shown++ < 10) {
                System.out.println("  " + name + ": " + line);
            }
        }
        System.out.println((due.wrong.isEmpty() ? "passed " : "failed ") + name);
        return due.wrong.isEmpty();
    }
}
