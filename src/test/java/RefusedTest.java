/**
 * "What throws changes nothing (but cases that were told are none when a choice is broken).": every way in which a
 * call can be refused, on a desk where tasks wait in every way. That nothing changes is looked at by Run.
 */
public final class RefusedTest {
    private static final String SENTENCE =
            "What throws changes nothing (but cases that were told are none when a choice is broken).";
    private static final String ARGUMENT = " = throws.IllegalArgumentException";
    private static final String STATE = " = throws.IllegalStateException";
    private static final String UNSUPPORTED = " = throws.UnsupportedOperationException";
    private static final String NO_ELEMENT = " = throws.NoSuchElementException";

    private static final String[] WRONG_ARGUMENTS = {
        "sleep(1000000001)", "channel(-1)", "channel(8193)", "alarm(-1, 1)", "alarm(6, 1)", "alarm(0, -1)",
        "alarm(0, 1000000001)", "send(6, 1)", "send(-2, 1)", "receive(6)", "receive(-2)", "close(6)", "close(-2)",
        "offer(6, true, 1)", "offer(-2, false, 1)", "choose(-1, true)", "choose(-1, false)", "gate(-1, 0)",
        "gate(5, 0)", "gate(3, 1)", "gate(3, 9)", "gate(3, -1)", "enter(-1)", "enter(9)", "read(-1)", "read(9)",
        "read(0)", "read(2)", "read(3)", "read(4)", "leave(-1)", "leave(9)", "change(-1, 1)", "change(9, 1)",
        "change(0, 1)", "change(4, 1)"
    };
    private static final String[] NOBODY_CURRENT = {
        "spawn()", "giveWay()", "finish()", "sleep(1)", "sleep(0)", "alarm(0, 1)", "send(0, 1)", "send(1, 1)",
        "send(2, 1)", "send(-1, 1)", "receive(0)", "receive(1)", "receive(2)", "receive(-1)", "close(0)", "close(2)",
        "close(-1)", "offer(0, true, 1)", "offer(-1, true, 1)", "choose(0, true)", "choose(0, false)", "enter(0)",
        "enter(1)", "enter(2)", "enter(3)", "enter(4)", "enter(5)", "enter(6)", "read(1)", "leave(0)", "leave(1)",
        "leave(2)", "leave(3)", "leave(4)", "leave(5)", "change(1, 1)", "change(2, 1)", "change(2, -9)", "change(3, 1)"
    };
    private static final String[] NOT_NOW = {
        "send(2, 1)", "close(2)", "close(-1)", "leave(5)", "leave(7)", "leave(8)", "change(7, 0)", "change(2, -3)",
        "change(2, 1000000000)", "enter(6)"
    };
    private static final String[] NO_SUCH = {
        "task(-1, 0)", "task(11, 0)", "task(256, 0)", "task(0, -1)", "task(0, 6)", "outcome(-1)", "outcome(11)",
        "look(-1, 0)", "look(6, 0)", "look(0, -1)", "look(0, 5)", "watch(-1, 0)", "watch(9, 0)", "watch(0, -1)",
        "watch(0, 3)"
    };
    private static final String[] NOT_RELEASED = {
        "release(-1)", "release(-2)", "release(6)", "release(512)", "release(0)", "release(1)", "release(3)", "release(4)"
    };

    public static void main(String[] args) {
        whileSomebodyIsCurrent();
        whenBlocked();
        whenOver();
        brokenChoices();
        tooMany();
        Check.end();
    }

    /** A desk of 11 tasks: some wait in each way, the main one is current; cases are told and alarms are to ring. */
    private static Run busyDesk() {
        Run run = Run.withGates(SENTENCE, 10).due("gate(0, 0) = 5", "gate(3, 5) = 6", "gate(1, 0) = 7", "gate(4, 0) = 8");
        run.due("channel(0) = 0", "channel(2) = 1", "channel(3) = 2", "channel(0) = 3", "channel(1) = 4", "channel(0) = 5");
        run.due("send(1, 11)", "send(1, 12)", "send(2, 21)", "close(2)", "change(2, 2)", "enter(0)", "enter(4)", "giveWay()");
        run.due("send(0, 1) = false", "receive(3) = false", "offer(3, false, 0)", "offer(0, true, 3)");
        run.due("choose(0, false) = false", "sleep(5) = 5", "enter(0) = false", "enter(2) = false", "enter(4) = false");
        run.due("send(1, 13) = false", "enter(1) = true", "giveWay() = 10", "read(1) = false", "current() = 0");
        run.due("send(5, 50) = false", "current() = 9", "receive(5) = true", "giveWay() = 0", "alarm(4, 2)", "alarm(1, 3)");
        return run.due("offer(4, true, 41)", "offer(-1, false, 0)", "offer(2, true, 22)", "current() = 0").row(9);
    }

    private static void all(Run run, String[] calls, String answer) {
        for (String call : calls) {
            run.due(call + answer);
        }
    }

    private static void whileSomebodyIsCurrent() {
        all(busyDesk(), WRONG_ARGUMENTS, ARGUMENT);
        all(busyDesk(), NOT_NOW, UNSUPPORTED);
        all(busyDesk(), NO_SUCH, NO_ELEMENT);
        all(busyDesk(), NOT_RELEASED, " = false");
        busyDesk().due("channel(8187)" + STATE, "channel(8192)" + STATE, "channel(8186) = 6", "channel(1)" + STATE);
    }

    private static void whenBlocked() {
        Run run = busyDesk().due("receive(-1) = false", "current() = 9", "receive(-1) = false", "current() = 4");
        run.due("receive(-1) = false", "count(7) = 2", "clock() = 5", "count(5) = 0", "count(6) = 3");
        all(run, NOBODY_CURRENT, STATE);
        all(run, WRONG_ARGUMENTS, ARGUMENT);
        all(run, NO_SUCH, NO_ELEMENT);
        all(run, NOT_RELEASED, " = false");
    }

    private static void whenOver() {
        Run run = busyDesk().due("finish() = -1", "count(7) = 1", "clock() = 0", "count(5) = 2", "count(6) = 3");
        all(run, NOBODY_CURRENT, STATE);
        all(run, WRONG_ARGUMENTS, ARGUMENT);
        run.due("task(0, 0)" + NO_ELEMENT, "outcome(5)" + NO_ELEMENT);
        run.due("release(-1) = false", "release(6) = false", "release(1) = false", "release(4) = false");
        run.due("release(2) = false", "release(5) = true");
    }

    private static void brokenChoices() {
        busyDesk().due("choose(1, false)" + UNSUPPORTED, "count(6) = 0", "current() = 0", "offer(4, true, 42) = 0")
                .due("offer(2, true, 1) = 1", "choose(3, true)" + UNSUPPORTED, "count(6) = 0", "choose(0, true) = true");
    }

    private static void tooMany() {
        Run cases = busyDesk().times(13, "offer(-1, true, 1)").due("count(6) = 16", "offer(4, true, 1)" + STATE);
        cases.due("offer(-1, true, 1)" + STATE, "offer(6, true, 1)" + ARGUMENT, "choose(0, true) = true", "task(0, 2) = 0");
        busyDesk().times(254, "alarm(5, 9)").due("count(5) = 256", "alarm(5, 9)" + STATE, "alarm(4, 0)" + STATE);
        Run tasks = busyDesk();
        for (int i = 11; i < 256; i++) {
            tasks.due("spawn() = " + i);
        }
        tasks.due("spawn()" + STATE);
        Run gates = busyDesk();
        for (int i = 9; i < 256; i++) {
            gates.due("gate(2, 0) = " + i);
        }
        gates.due("gate(2, 0)" + STATE, "gate(3, 0)" + STATE, "gate(3, 1)" + ARGUMENT);
    }
}
