/** Counts the answers that are not as due and prints them; the tests of the project share it. */
final class Check {
    interface Call {
        void run();
    }

    private static int wrong = 0;

    private Check() {
    }

    static void due(String call, long want, long got) {
        if (got != want) {
            tell(call + " answered " + got + ", due is " + want);
        }
    }

    static void due(String call, boolean want, boolean got) {
        if (got != want) {
            tell(call + " answered " + got + ", due is " + want);
        }
    }

    /** The call must throw just this class, thrown by the program and not by the machine. */
    static void throwing(Class<? extends RuntimeException> want, String call, Call run) {
        Class<?> got = null;
        try {
            run.run();
        } catch (RuntimeException e) {
            got = e.getClass();
        }
        if (got != want) {
            tell(call + " threw " + (got == null ? "nothing" : got.getName()) + ", due is " + want.getName());
        }
    }

    static void argument(String call, Call run) {
        throwing(IllegalArgumentException.class, call, run);
    }

    static void state(String call, Call run) {
        throwing(IllegalStateException.class, call, run);
    }

    static void unsupported(String call, Call run) {
        throwing(UnsupportedOperationException.class, call, run);
    }

    static void noElement(String call, Call run) {
        throwing(java.util.NoSuchElementException.class, call, run);
    }

    static void tell(String text) {
        wrong++;
        System.out.println(text);
    }

    /** A task's outcome, all four parts of it. */
    static void outcome(TaskDesk x, int task, long number, boolean flag, int caseNumber, boolean broken) {
        due("outcome(" + task + ")", number, x.outcome(task));
        due("task(" + task + ", 2)", caseNumber, x.task(task, 2));
        due("task(" + task + ", 3)", flag ? 1 : 0, x.task(task, 3));
        due("task(" + task + ", 4)", broken ? 1 : 0, x.task(task, 4));
    }

    static void end() {
        System.out.println(wrong == 0 ? "all answers are as due" : wrong + " answers are not as due");
        if (wrong != 0) {
            System.exit(1);
        }
    }
}
