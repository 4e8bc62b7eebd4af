import java.util.ArrayList;
import java.util.List;

/** Runs the cases, keeps what they find wrong, and counts. */
final class Check {
    /** A call of the volume; a call without an answer answers 0. */
    interface Call {
        long answer();
    }

    private static final List<String> wrongs = new ArrayList<>();
    private static int passed = 0;
    private static int failed = 0;

    private Check() {
    }

    static void run(String name, Runnable test) {
        wrongs.clear();
        try {
            test.run();
        } catch (RuntimeException e) {
            wrongs.add("was broken off by " + e);
        }
        if (wrongs.isEmpty()) {
            passed++;
            return;
        }
        failed++;
        System.out.println("FAILED: " + name);
        for (String wrong : wrongs.subList(0, Math.min(10, wrongs.size()))) {
            System.out.println("    " + wrong);
        }
    }

    static void due(String what, long got, long want) {
        if (got != want) {
            wrongs.add(what + " answered " + got + ", due is " + want);
        }
    }

    static void due(String what, String got, String want) {
        if (!got.equals(want)) {
            wrongs.add(what + " is '" + got + "', due is '" + want + "'");
        }
    }

    /** The exception must be of that very class: a subclass of it was thrown by the machine. */
    static void thrown(String what, Class<? extends RuntimeException> want, Call call) {
        String got = outcome(call);
        if (!got.equals(want.getSimpleName())) {
            wrongs.add(what + " gave " + got + ", due is " + want.getSimpleName());
        }
    }

    /** The answer as text, or the name of the exception. */
    static String outcome(Call call) {
        try {
            return Long.toString(call.answer());
        } catch (RuntimeException e) {
            return e.getClass().getSimpleName();
        }
    }

    static int report() {
        System.out.println("project: " + passed + " passed, " + failed + " failed");
        return failed;
    }
}
