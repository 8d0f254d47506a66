/** Counts and prints the answers that are not as due; each test makes one and ends with it. */
final class Check {
    private int checks;
    private int wrong;

    void due(String call, long got, long want) {
        checks++;
        if (got != want) {
            wrong++;
            System.out.println(call + " answered " + got + ", due is " + want);
        }
    }

    void due(String call, boolean got, boolean want) {
        checks++;
        if (got != want) {
            wrong++;
            System.out.println(call + " answered " + got + ", due is " + want);
        }
    }

    void due(String call, String got, String want) {
        checks++;
        if (!got.equals(want)) {
            wrong++;
            System.out.println(call + " answered " + got + ", due is " + want);
        }
    }

    /** The call must throw just this kind, not a kind below or above it. */
    void dueThrow(String call, Class<? extends RuntimeException> kind, Runnable run) {
        due(call, outcomeOf(run), kind.getSimpleName());
    }

    static String outcomeOf(Runnable run) {
        try {
            run.run();
            return "nothing thrown";
        } catch (RuntimeException thrown) {
            return thrown.getClass().getSimpleName();
        }
    }

    void badArgument(String call, Runnable run) {
        dueThrow(call, IllegalArgumentException.class, run);
    }

    void badState(String call, Runnable run) {
        dueThrow(call, IllegalStateException.class, run);
    }

    void badIndex(String call, Runnable run) {
        dueThrow(call, IndexOutOfBoundsException.class, run);
    }

    void end() {
        System.out.println(checks + " checks, " + wrong + " not as due");
        if (wrong != 0 || checks == 0) {
            System.exit(1);
        }
    }
}
