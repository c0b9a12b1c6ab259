/** The sentences on tasks, turns, the clock and outcomes that name a bound or what happens at one. */
public final class TaskEdgesTest {
    private static final String LEAST = "" + Integer.MIN_VALUE;
    private static final String GREATEST = "" + Integer.MAX_VALUE;

    public static void main(String[] args) {
        atMost256();
        leastFreeNumber();
        mainIsThereFromTheBeginning();
        firstOfTheRowBecomesCurrent();
        whoGoesOnAtOnceStaysCurrent();
        clockStaysWhileSomebodyIsReady();
        clockGoesToTheLeastTime();
        allThatIsDueHappens();
        inTheOrderOfAsking();
        andSoOn();
        overOrBlocked();
        overAtOnce();
        nobodyWaitsWhenAllIsOver();
        allElseStays();
        whoWakesComesToTheEnd();
        numberIsGivenBack();
        outcomeIsOldUntilTheTaskWakes();
        whatLeavesTheOutcome();
        brokenUntilTheNextOutcome();
        brokenUntilItWakesAgain();
        outcomeAtFirst();
        outcomeIsOfTheLatest();
        promise1();
        promise2();
        promise3();
        promise4();
        promise5();
        promise19();
        promise20States();
        promise20ForGood();
        promise20Where();
        promise20Outcome();
        promise20Row();
        promise20Wrong();
        promise21();
        promise24();
        promise25();
        promise25WhenOverAndBlocked();
        questionsChangeNothing();
        Check.end();
    }

    // ---- Terms: TASKS

    private static void atMost256() {
        Run run = new Run("There are at most 256, numbered");
        for (int i = 1; i < 256; i++) {
            run.due("spawn() = " + i);
        }
        run.due("count(0) = 256", "count(1) = 255", "spawn() = throws.IllegalStateException", "count(0) = 256");
        run.due("count(1) = 255", "task(255, 0) = 1", "task(255, 5) = 254");
        run.due("task(256, 0) = throws.NoSuchElementException", "giveWay() = 1", "finish() = 2", "count(0) = 255");
        run.due("spawn() = 1", "count(0) = 256", "task(1, 5) = 254", "spawn() = throws.IllegalStateException");
        run.due("receive(-1) = false", "spawn() = throws.IllegalStateException", "count(0) = 256");
    }

    private static void leastFreeNumber() {
        new Run("a new one gets the least number that is free").withTasks(5)
                .due("giveWay() = 1", "finish() = 2", "giveWay() = 3", "finish() = 4", "finish() = 5")
                .due("spawn() = 1", "spawn() = 3", "spawn() = 4", "spawn() = 6", "count(0) = 7")
                .row(0, 2, 1, 3, 4, 6);
    }

    private static void mainIsThereFromTheBeginning() {
        new Run("the MAIN one is 0 and there from the beginning")
                .due("current() = 0", "count(0) = 1", "task(0, 0) = 0", "spawn() = 1", "receive(-1) = false")
                .due("current() = 1", "spawn() = 2", "count(0) = 3");
    }

    private static Run threeWithAll(String sentence) {
        return Run.withGates(sentence, 2).due("channel(0) = 0", "change(2, 1)", "enter(1) = true");
    }

    private static void firstOfTheRowBecomesCurrent() {
        String[] stops = {
            "send(0, 1) = false", "receive(0) = false", "send(-1, 1) = false", "receive(-1) = false",
            "choose(0, false) = false", "enter(1) = false", "enter(2) = false", "read(1) = false",
            "sleep(1) = 1", "sleep(0) = 1", "sleep(-1) = 1", "giveWay() = 1"
        };
        String sentence = "When it waits, sleeps, is over, or lets others go first, the first of the row becomes current";
        for (String stop : stops) {
            threeWithAll(sentence).due(stop, "current() = 1", "task(1, 0) = 0", "task(2, 0) = 1", "task(2, 5) = 0");
        }
        threeWithAll(sentence).due("giveWay() = 1", "finish() = 2", "current() = 2", "task(2, 0) = 0").row(0);
        threeWithAll(sentence).due("enter(0)", "enter(3) = false", "current() = 1").row(2);
        threeWithAll(sentence).due("enter(4)", "enter(4) = false", "current() = 1").row(2);
    }

    private static void whoGoesOnAtOnceStaysCurrent() {
        String[] goesOn = {
            "spawn() = 3", "channel(1) = 1", "gate(0, 0) = 5", "alarm(0, 0)", "offer(0, true, 1) = 0",
            "choose(0, true) = true", "enter(0) = true", "enter(4) = true", "leave(1)", "leave(2)", "leave(3)",
            "change(2, -1)", "change(3, 0)", "close(0)", "release(0) = true"
        };
        for (String call : goesOn) {
            threeWithAll("One is the CURRENT one, which does all calls that say \"it\"")
                    .due(call, "current() = 0", "task(0, 0) = 0", "task(1, 5) = 0", "task(2, 5) = 1");
        }
    }

    private static void clockStaysWhileSomebodyIsReady() {
        new Run("if the row is empty, the CLOCK (0 at first) goes on to the least time at which somebody wakes")
                .due("clock() = 0", "channel(1) = 0", "spawn() = 1", "spawn() = 2", "alarm(0, 1)", "sleep(2) = 1")
                .due("clock() = 0", "sleep(1) = 2", "clock() = 0", "giveWay() = 2", "clock() = 0", "count(5) = 1")
                .due("receive(-1) = false", "clock() = 1", "current() = 1", "look(0, 0) = 1", "count(5) = 0")
                .due("task(0, 0) = 5", "finish() = 0", "clock() = 2");
    }

    private static void clockGoesToTheLeastTime() {
        String sentence = "the CLOCK (0 at first) goes on to the least time at which somebody wakes or an alarm rings";
        new Run(sentence).due("channel(0) = 0", "spawn() = 1", "alarm(0, 5)", "sleep(4) = 1", "receive(0) = false")
                .due("current() = 0", "clock() = 4", "count(5) = 1", "task(1, 0) = 3");
        new Run(sentence).due("channel(0) = 0", "spawn() = 1", "alarm(0, 4)", "sleep(5) = 1", "receive(0) = false")
                .due("current() = 1", "clock() = 4", "count(5) = 0", "task(0, 0) = 5", "outcome(1) = 4");
        new Run(sentence).withTasks(2).due("sleep(1000000000) = 1", "sleep(999999999) = 2", "sleep(1) = 2")
                .due("clock() = 1", "finish() = 1", "clock() = 999999999", "finish() = 0", "clock() = 1000000000");
        new Run(sentence).due("sleep(1000000000) = 0", "sleep(1000000000) = 0", "sleep(1000000000) = 0")
                .due("clock() = 3000000000");
    }

    private static void allThatIsDueHappens() {
        String sentence = "(all that is due at that time happens, in the order in which it was asked for)";
        new Run(sentence).due("channel(2) = 0", "spawn() = 1", "spawn() = 2", "sleep(3) = 1", "sleep(3) = 2")
                .due("alarm(0, 3)", "alarm(0, 4)", "alarm(0, 3)", "sleep(3) = 0", "clock() = 3").row(1, 2)
                .due("look(0, 0) = 2", "count(5) = 1");
        new Run(sentence).due("channel(0) = 0", "alarm(0, 2)", "spawn() = 1", "receive(0) = false", "sleep(2) = 0")
                .due("clock() = 2", "task(1, 0) = 1", "outcome(0) = 2");
        new Run(sentence).due("channel(0) = 0", "spawn() = 1", "receive(0) = false", "spawn() = 2", "giveWay() = 2")
                .due("sleep(2) = 1", "alarm(0, 2)", "sleep(9) = 2", "clock() = 2").row(0);
    }

    private static void inTheOrderOfAsking() {
        new Run("in the order in which it was asked for").withTasks(3)
                .due("sleep(10) = 1", "sleep(5) = 2", "sleep(10) = 3", "receive(-1) = false", "clock() = 5")
                .due("current() = 1", "sleep(5) = 0", "clock() = 10").row(2, 1);
        new Run("in the order in which it was asked for").due("channel(1) = 0", "channel(0) = 1", "spawn() = 1")
                .due("receive(1) = false", "alarm(1, 2)", "alarm(1, 2)", "alarm(0, 1)", "sleep(2) = 0", "clock() = 2")
                .row(1).due("outcome(0) = 2", "count(5) = 0", "look(1, 0) = 0", "receive(0) = true", "outcome(0) = 1");
    }

    private static void andSoOn() {
        new Run("and so on; if there is nobody and nothing, there is no current task")
                .due("channel(0) = 0", "channel(1) = 1", "alarm(0, 5)", "alarm(1, 9)", "sleep(20) = 0")
                .due("clock() = 20", "count(5) = 0", "look(1, 0) = 1", "alarm(0, 7)", "alarm(0, 1)", "alarm(1, 7)")
                .due("receive(-1) = false", "clock() = 27", "count(5) = 0", "look(1, 0) = 1", "current() = -1");
    }

    private static void overOrBlocked() {
        String sentence = "all is OVER when the main task is over, or else BLOCKED for good";
        new Run(sentence).due("count(7) = 0", "finish() = -1", "count(7) = 1", "current() = -1");
        new Run(sentence).due("spawn() = 1", "receive(-1) = false", "count(7) = 0", "finish() = -1")
                .due("count(7) = 2", "current() = -1", "count(0) = 1", "task(0, 0) = 7");
        new Run(sentence).due("channel(0) = 0", "receive(0) = false", "count(7) = 2", "count(0) = 1", "clock() = 0")
                .due("send(0, 1) = throws.IllegalStateException", "channel(1) = 1", "gate(0, 0) = 0")
                .due("release(1) = true", "release(0) = false", "count(7) = 2", "current() = -1");
        new Run(sentence).due("spawn() = 1", "receive(-1) = false", "sleep(3) = 1", "count(7) = 0", "clock() = 3")
                .due("receive(-1) = false", "count(7) = 2", "count(0) = 2", "clock() = 3");
    }

    private static void overAtOnce() {
        new Run("When the main task is over, all is over at once, and there are no tasks")
                .due("spawn() = 1", "spawn() = 2", "spawn() = 3", "giveWay() = 1", "sleep(5) = 2", "receive(-1) = false")
                .due("giveWay() = 0", "count(0) = 4", "count(1) = 1", "finish() = -1", "current() = -1", "clock() = 0")
                .due("count(0) = 0", "count(1) = 0", "count(7) = 1", "task(0, 0) = throws.NoSuchElementException")
                .due("task(1, 0) = throws.NoSuchElementException", "outcome(2) = throws.NoSuchElementException")
                .due("task(3, 5) = throws.NoSuchElementException");
    }

    private static void nobodyWaitsWhenAllIsOver() {
        Run.withGates("When the main task is over, all is over at once, and there are no tasks", 4)
                .due("channel(0) = 0", "channel(0) = 1", "enter(0)", "giveWay() = 1", "send(0, 1) = false")
                .due("offer(0, true, 1)", "offer(1, false, 0)", "choose(0, false) = false", "enter(0) = false")
                .due("sleep(9) = 0", "look(0, 2) = 2", "look(1, 3) = 1", "watch(0, 2) = 1", "finish() = -1", "look(0, 2) = 0")
                .due("look(1, 3) = 0", "watch(0, 2) = 0", "watch(0, 1) = 1", "clock() = 0", "release(0) = true");
    }

    private static void allElseStays() {
        Run run = new Run("(all else stays to be looked at, alarms that were to ring and cases told still counted)");
        run.due("sleep(6) = 0", "channel(3) = 0", "channel(1) = 1", "send(0, 8)", "send(0, 9)", "close(1)");
        for (int kind = 0; kind < 5; kind++) {
            run.due("gate(" + kind + ", 0) = " + kind);
        }
        run.due("enter(0)", "read(1)", "read(1)", "change(2, 7)", "enter(4)", "alarm(0, 4)", "alarm(1, 0)");
        run.due("offer(0, true, 1)", "offer(-1, false, 0)", "offer(1, true, 1)", "finish() = -1");
        int[] counts = {0, 0, 2, 4, 5, 2, 3, 1};
        for (int what = 0; what < counts.length; what++) {
            run.due("count(" + what + ") = " + counts[what]);
        }
        run.due("clock() = 6", "look(0, 0) = 2", "look(0, 1) = 3", "look(0, 4) = 0", "look(1, 0) = 0");
        run.due("look(1, 4) = 1", "watch(0, 1) = 1", "watch(1, 1) = 2", "watch(2, 1) = 7", "watch(3, 1) = 0");
        run.due("watch(4, 1) = 1", "watch(4, 0) = 4", "release(0) = false", "release(1) = false");
    }

    private static void whoWakesComesToTheEnd() {
        String sentence = "Whoever WAKES comes to the row's end.";
        new Run(sentence).withTasks(3).due("channel(0) = 0", "receive(0) = false", "spawn() = 4", "send(0, 1) = true")
                .row(2, 3, 4, 0).due("current() = 1");
        new Run(sentence).withTasks(3).due("channel(0) = 0", "send(0, 1) = false", "receive(0) = true").row(2, 3, 0);
        Run.withGates(sentence, 3).due("enter(0)", "giveWay()", "enter(0) = false", "leave(0)").row(3, 0, 1);
        Run.withGates(sentence, 3).due("change(2, 1)", "enter(2) = false", "leave(2)").row(2, 3, 0);
        Run.withGates(sentence, 3).due("enter(4)", "enter(4) = false", "leave(4)").row(2, 3, 0);
        Run.withGates(sentence, 3).due("enter(0)", "enter(3) = false", "leave(3)").row(2, 3, 0);
    }

    private static void numberIsGivenBack() {
        new Run("A task that is over gives its number back at once; a new one's outcome is as at first.")
                .due("channel(1) = 0", "spawn() = 1", "spawn() = 2", "giveWay() = 1", "offer(0, true, 3)")
                .due("choose(0, false) = true").outcome(1, 0, true, 0, false).due("receive(0) = true")
                .outcome(1, 3, true, -1, false).due("finish() = 2", "task(1, 0) = throws.NoSuchElementException")
                .due("spawn() = 1").outcome(1, 0, false, -1, false).row(0, 1).due("task(1, 1) = -1");
        new Run("a new one's outcome is as at first").withTasks(2)
                .due("channel(0) = 0", "giveWay() = 1", "send(0, 5) = false", "close(0)").outcome(1, 0, false, -1, true)
                .due("giveWay() = 0", "giveWay() = 1", "finish() = 2", "spawn() = 1").outcome(1, 0, false, -1, false);
    }

    // ---- Terms: the outcome

    private static void outcomeIsOldUntilTheTaskWakes() {
        String sentence = "It is there at once, or when the task wakes (the old one till then";
        String[] waits = {
            "send(0, 1) = false", "receive(0) = false", "choose(0, false) = false", "enter(1) = false",
            "read(1) = false", "enter(2) = false", "enter(3) = false", "enter(4) = false"
        };
        for (String wait : waits) {
            Run.withGates(sentence, 1).due("channel(0) = 0", "channel(1) = 1", "change(2, 1)", "enter(0)", "enter(1)")
                    .due("enter(4)", "send(1, 31)", "offer(0, true, 2)", "offer(1, false, 0)", "choose(5, false)")
                    .outcome(0, 31, true, 1, false).due(wait).outcome(0, 31, true, 1, false);
        }
    }

    private static void whatLeavesTheOutcome() {
        String sentence = "what doesn't send, receive, choose or enter leaves it";
        Run run = Run.withGates(sentence, 1).due("channel(0) = 0", "channel(2) = 1", "change(2, 1)", "enter(0)");
        run.due("enter(1)", "enter(4)", "send(1, 31)", "offer(0, true, 2)", "offer(1, false, 0)", "choose(5, false)");
        String[] others = {
            "spawn()", "giveWay() = 1", "giveWay() = 2", "giveWay() = 0", "sleep(0) = 1", "receive(-1) = false",
            "receive(-1) = false", "sleep(5) = 0", "channel(1)", "release(2) = true", "alarm(1, 1)",
            "offer(1, true, 6)", "gate(0, 0)", "leave(0)", "leave(1)", "leave(2)", "leave(3)", "leave(4)",
            "change(2, 1)", "change(3, 1)", "close(0)", "send(0, 1) = throws.UnsupportedOperationException",
            "sleep(1) = 0", "look(1, 0) = 1", "clock() = 6"
        };
        for (String call : others) {
            run.due(call).outcome(0, 31, true, 1, false);
        }
    }

    private static void brokenUntilTheNextOutcome() {
        String sentence = "whether it is BROKEN (it waited to send when the channel was closed; number 0 and flag false then)";
        String[] nexts = {"send(1, 4) = true", "receive(2) = true", "choose(0, true) = true", "enter(0) = true",
            "read(1) = true", "enter(2) = true", "enter(4) = true"};
        for (String next : nexts) {
            boolean flag = !next.startsWith("receive") && !next.startsWith("choose");
            Run.withGates(sentence, 1).due("channel(0) = 0", "channel(1) = 1", "channel(0) = 2", "close(2)")
                    .due("send(0, 4) = false", "close(0)").outcome(0, 0, false, -1, true).due("giveWay() = 0")
                    .outcome(0, 0, false, -1, true).due("spawn()", "sleep(0)", "leave(3)", "finish() = 2")
                    .due("giveWay() = 0").outcome(0, 0, false, -1, true).due(next).outcome(0, 0, flag, -1, false);
        }
    }

    private static void brokenUntilItWakesAgain() {
        String sentence = "It is there at once, or when the task wakes (the old one till then";
        String[] waits = {"send(1, 4)", "receive(1)", "enter(0)", "enter(1)", "read(1)", "enter(2)", "enter(4)"};
        String[] wakes = {"receive(1)", "send(1, 4)", "leave(0)", "leave(1)", "leave(1)", "leave(2)", "leave(4)"};
        for (int i = 0; i < waits.length; i++) {
            boolean received = waits[i].startsWith("receive");
            Run.withGates(sentence, 1).due("channel(0) = 0", "channel(0) = 1", "enter(0)", "enter(1)", "change(2, 1)")
                    .due("enter(4)", "send(0, 4) = false", "close(0)", "giveWay() = 0").outcome(0, 0, false, -1, true)
                    .due(waits[i] + " = false").outcome(0, 0, false, -1, true).due(wakes[i])
                    .outcome(0, received ? 4 : 0, !waits[i].equals("enter(4)"), -1, false);
        }
    }

    private static void outcomeAtFirst() {
        new Run("at first all 0, false, NONE, not broken").outcome(0, 0, false, -1, false).due("spawn() = 1")
                .outcome(1, 0, false, -1, false).due("giveWay() = 1").outcome(1, 0, false, -1, false);
    }

    private static void outcomeIsOfTheLatest() {
        String sentence = "A task has an OUTCOME of what it sent, received, chose or entered latest: a number, a FLAG, "
                + "a CASE (NONE but for choices)";
        Run run = Run.withGates(sentence, 1).due("channel(2) = 0", "channel(0) = 1", "close(1)");
        run.due("offer(-1, true, 1)", "offer(0, true, 14)", "choose(0, false)").outcome(0, 0, true, 1, false);
        run.due("send(0, 15) = true").outcome(0, 0, true, -1, false).due("receive(0) = true");
        run.outcome(0, 14, true, -1, false).due("offer(0, false, 1)", "choose(0, false)").outcome(0, 15, true, 0, false);
        run.due("receive(1) = true").outcome(0, 0, false, -1, false).due("enter(0) = true").outcome(0, 0, true, -1, false);
        run.due("offer(1, false, 1)", "choose(0, false)").outcome(0, 0, false, 0, false).due("read(1) = true");
        run.outcome(0, 0, true, -1, false).due("choose(0, true) = true").outcome(0, 0, false, -1, false);
        run.due("enter(4) = true").outcome(0, 0, true, -1, false).due("leave(4)", "enter(4) = true");
        run.outcome(0, 0, false, -1, false).due("enter(2) = true").outcome(0, 0, true, -1, false);
        run.outcome(1, 0, false, -1, false);
    }

    // ---- the promises

    private static void promise1() {
        Run run = new Run("The main task, current; no channels, no gates, no cases told; the clock is 0.");
        run.due("current() = 0", "clock() = 0", "task(0, 0) = 0", "task(0, 1) = -1", "task(0, 5) = -1");
        int[] counts = {1, 0, 0, 0, 0, 0, 0, 0};
        for (int what = 0; what < counts.length; what++) {
            run.due("count(" + what + ") = " + counts[what]);
        }
        run.due("look(0, 0) = throws.NoSuchElementException", "watch(0, 0) = throws.NoSuchElementException");
        run.due("send(0, 1) = throws.IllegalArgumentException", "enter(0) = throws.IllegalArgumentException");
        run.due("task(1, 0) = throws.NoSuchElementException", "choose(0, true) = true", "task(0, 2) = -1");
    }

    private static void promise2() {
        new Run("A new task, ready: its number.").due("spawn() = 1", "task(1, 0) = 1", "task(1, 1) = -1")
                .due("task(1, 5) = 0", "current() = 0", "spawn() = 2", "task(2, 5) = 1", "count(0) = 3", "count(1) = 2");
        String sentence = "IllegalStateException: there is no current one, or there are 256.";
        Run.over(sentence).due("spawn() = throws.IllegalStateException", "count(0) = 0");
        Run.blocked(sentence).due("spawn() = throws.IllegalStateException", "count(0) = 1");
    }

    private static void promise3() {
        String sentence = "(it comes to the row's end; alone it goes on, the clock stays)";
        new Run(sentence).withTasks(2).due("giveWay() = 1", "current() = 1").row(2, 0);
        new Run(sentence).due("giveWay() = 0", "current() = 0", "task(0, 0) = 0", "task(0, 5) = -1", "clock() = 0");
        new Run(sentence).due("channel(1) = 0", "spawn() = 1", "alarm(0, 0)", "giveWay() = 1", "sleep(1) = 0")
                .due("giveWay() = 0", "clock() = 0", "count(5) = 1", "look(0, 0) = 0", "task(1, 0) = 5");
        String none = "who is current then. IllegalStateException: there is no current one.";
        Run.over(none).due("giveWay() = throws.IllegalStateException");
        Run.blocked(none).due("giveWay() = throws.IllegalStateException");
    }

    private static void promise4() {
        String sentence = "It is over: who is current then; NONE when nobody is.";
        new Run(sentence).withTasks(2).due("giveWay() = 1", "finish() = 2", "finish() = 0", "finish() = -1");
        new Run(sentence).due("spawn() = 1", "sleep(4) = 1", "finish() = 0", "clock() = 4", "count(0) = 1");
        new Run(sentence).due("spawn() = 1", "receive(-1) = false", "finish() = -1", "count(7) = 2");
        new Run(sentence).due("channel(0) = 0", "spawn() = 1", "alarm(0, 3)", "receive(0) = false", "finish() = 0")
                .due("outcome(0) = 3");
        Run.over(sentence).due("finish() = throws.IllegalStateException", "count(7) = 1");
        Run.blocked(sentence).due("finish() = throws.IllegalStateException", "count(7) = 2", "count(0) = 1");
    }

    private static void promise5() {
        String sentence = "It sleeps until the clock is so much later (0 and less: it lets the others go first).";
        new Run(sentence).due("spawn() = 1", "sleep(0) = 1", "task(0, 0) = 1", "sleep(-1) = 0", "sleep(1) = 1")
                .due("task(0, 0) = 5", "sleep(0) = 1", "clock() = 0", "sleep(2) = 0", "clock() = 1");
        new Run(sentence).due("sleep(0) = 0", "sleep(" + Long.MIN_VALUE + ") = 0", "clock() = 0", "sleep(1) = 0")
                .due("clock() = 1", "sleep(1000000000) = 0", "clock() = 1000000001");
        String wrong = "IllegalArgumentException: time is above 1000000000; IllegalStateException: there is no current one.";
        new Run(wrong).due("spawn() = 1", "sleep(1000000001) = throws.IllegalArgumentException")
                .due("sleep(" + Long.MAX_VALUE + ") = throws.IllegalArgumentException", "current() = 0", "clock() = 0")
                .due("sleep(1000000000) = 1", "finish() = 0", "clock() = 1000000000");
        Run.over(wrong).due("sleep(1) = throws.IllegalStateException", "sleep(0) = throws.IllegalStateException")
                .due("sleep(-1) = throws.IllegalStateException", "sleep(1000000001) = throws.IllegalArgumentException");
        Run.blocked(wrong).due("sleep(1) = throws.IllegalStateException", "sleep(0) = throws.IllegalStateException");
    }

    private static void promise19() {
        String sentence = "Who is current; NONE when nobody is.";
        new Run(sentence).due("current() = 0", "spawn() = 1", "current() = 0", "giveWay() = 1", "current() = 1");
        new Run(sentence).due("finish() = -1", "current() = -1");
        new Run(sentence).due("receive(-1) = false", "current() = -1");
    }

    private static void promise20States() {
        Run run = Run.withGates("0 its state: 0 current, 1 ready, 2 waits to send, 3 to receive, 4 in a choice, 5 asleep, "
                + "6 at a gate, 7 waits for good", 7);
        run.due("channel(0) = 0", "channel(0) = 1", "enter(4) = true", "giveWay() = 1", "send(1, 1) = false");
        run.due("receive(0) = false", "offer(0, false, 1)", "choose(0, false) = false", "sleep(1) = 5");
        run.due("enter(4) = false", "receive(-1) = false");
        int[] states = {1, 2, 3, 4, 5, 6, 7, 0};
        int[] places = {-1, 1, 0, -1, -1, 4, -1, -1};
        for (int task = 0; task < states.length; task++) {
            run.due("task(" + task + ", 0) = " + states[task], "task(" + task + ", 1) = " + places[task]);
        }
    }

    private static void promise20ForGood() {
        String sentence = "7 waits for good (NOWHERE, or a choice without cases or with no others than NOWHERE)";
        new Run(sentence).due("spawn() = 1", "send(-1, 1) = false", "task(0, 0) = 7", "task(0, 1) = -1");
        new Run(sentence).due("spawn() = 1", "receive(-1) = false", "task(0, 0) = 7", "task(0, 1) = -1");
        new Run(sentence).due("spawn() = 1", "choose(0, false) = false", "task(0, 0) = 7", "task(0, 1) = -1");
        new Run(sentence).due("spawn() = 1", "offer(-1, true, 1)", "offer(-1, false, 1)", "choose(0, false) = false")
                .due("task(0, 0) = 7", "task(0, 1) = -1");
        new Run(sentence).due("spawn() = 1", "channel(0) = 0", "offer(0, true, 1)", "offer(-1, false, 1)")
                .due("choose(0, false) = false", "task(0, 0) = 4", "task(0, 1) = -1");
        new Run(sentence).due("spawn() = 1", "channel(0) = 0", "offer(-1, true, 1)", "offer(0, false, 1)")
                .due("choose(0, false) = false", "task(0, 0) = 4", "task(0, 1) = -1");
    }

    private static void promise20Where() {
        String sentence = "1 the channel or gate at which it waits (NONE for others, and in a choice)";
        for (int gate = 0; gate < 5; gate++) {
            Run run = Run.withGates(sentence, 1).due("enter(0)", "enter(1)", "change(2, 1)", "enter(4)");
            run.due("enter(" + gate + ") = false", "task(0, 0) = 6", "task(0, 1) = " + gate, "task(1, 1) = -1");
        }
        Run.withGates(sentence, 1).due("enter(1)", "read(1) = false", "task(0, 0) = 6", "task(0, 1) = 1");
        new Run(sentence).due("channel(0) = 0", "channel(0) = 1", "spawn() = 1", "spawn() = 2", "task(0, 1) = -1")
                .due("send(1, 1) = false", "task(0, 1) = 1", "receive(0) = false", "task(1, 1) = 0", "send(0, 5) = true")
                .due("task(1, 1) = -1", "receive(1) = true", "task(0, 1) = -1", "sleep(3) = 1", "task(2, 1) = -1");
    }

    private static void promise20Outcome() {
        new Run("2 its outcome's case (NONE for none), 3 its flag (1 or 0), 4 whether it is broken (1 or 0)").withTasks(2)
                .due("channel(0) = 0", "task(0, 2) = -1", "task(0, 3) = 0", "task(0, 4) = 0", "offer(-1, false, 0)")
                .due("offer(0, true, 5)", "choose(0, false) = false", "task(0, 2) = -1", "send(0, 6) = false", "receive(0)")
                .due("task(0, 2) = 1", "task(0, 3) = 1", "task(0, 4) = 0", "task(2, 2) = -1", "task(2, 3) = 1", "close(0)")
                .due("task(1, 2) = -1", "task(1, 3) = 0", "task(1, 4) = 1", "task(2, 4) = 0");
    }

    private static void promise20Row() {
        new Run("5 how many tasks stand before it in the ready row (NONE if it isn't there)").withTasks(3)
                .due("task(0, 5) = -1", "task(1, 5) = 0", "task(2, 5) = 1", "task(3, 5) = 2", "sleep(2) = 1")
                .due("task(0, 5) = -1", "task(1, 5) = -1", "task(2, 5) = 0", "receive(-1) = false", "task(1, 5) = -1")
                .due("task(3, 5) = 0", "giveWay() = 3", "task(2, 5) = 0", "task(3, 5) = -1");
    }

    private static void promise20Wrong() {
        Run run = new Run("NoSuchElementException: there is no such task or what.").due("spawn() = 1");
        for (String task : new String[] {"-1", "-2", "2", "255", "256", "257", LEAST, GREATEST}) {
            for (int what = 0; what <= 5; what++) {
                run.due("task(" + task + ", " + what + ") = throws.NoSuchElementException");
            }
        }
        for (String what : new String[] {"-1", "6", "7", LEAST, GREATEST}) {
            run.due("task(0, " + what + ") = throws.NoSuchElementException");
            run.due("task(1, " + what + ") = throws.NoSuchElementException");
        }
        run.due("task(0, 0) = 0", "task(1, 5) = 0");
    }

    private static void promise21() {
        Run run = new Run("The number of its outcome. NoSuchElementException: there is no such task.");
        run.due("spawn() = 1", "outcome(0) = 0", "outcome(1) = 0", "channel(1) = 0");
        for (String task : new String[] {"-1", "-2", "2", "255", "256", LEAST, GREATEST}) {
            run.due("outcome(" + task + ") = throws.NoSuchElementException");
        }
        for (long value : new long[] {Long.MAX_VALUE, Long.MIN_VALUE, -1, 0, 1L << 32}) {
            run.due("send(0, " + value + ") = true", "outcome(0) = 0", "receive(0) = true", "outcome(0) = " + value);
        }
        run.due("giveWay() = 1", "finish() = 0", "outcome(1) = throws.NoSuchElementException", "finish() = -1");
        run.due("outcome(0) = throws.NoSuchElementException");
    }

    private static void promise24() {
        new Run("`long clock()`: The clock.").due("clock() = 0", "sleep(7) = 0", "clock() = 7", "giveWay() = 0")
                .due("clock() = 7", "sleep(1000000000) = 0", "clock() = 1000000007", "sleep(1000000000) = 0")
                .due("sleep(1000000000) = 0", "clock() = 3000000007", "finish() = -1", "clock() = 3000000007");
        new Run("`long clock()`: The clock.").due("sleep(3) = 0", "receive(-1) = false", "clock() = 3");
    }

    private static void promise25() {
        Run run = Run.withGates("0 tasks that are not over, 1 ready ones, 2 channels, 3 room in all, 4 gates, "
                + "5 alarms that are to ring, 6 cases told, 7 how it stands", 3);
        run.due("channel(8000) = 0", "channel(0) = 1", "channel(192) = 2", "alarm(0, 0)", "alarm(1, 1)");
        run.due("offer(-1, true, 1)", "receive(-1) = false");
        int[] counts = {4, 2, 3, 8192, 5, 2, 1, 0};
        for (int what = 0; what < counts.length; what++) {
            run.due("count(" + what + ") = " + counts[what]);
        }
        Run none = new Run("NONE for any other number.");
        for (String what : new String[] {"-1", "8", "9", LEAST, GREATEST}) {
            none.due("count(" + what + ") = -1");
        }
    }

    private static void promise25WhenOverAndBlocked() {
        String sentence = "7 how it stands: 0 it goes on, 1 OVER, 2 BLOCKED. NONE for any other number.";
        Run.over(sentence).due("count(7) = 1", "count(8) = -1", "count(-1) = -1", "count(2) = 1", "count(0) = 0");
        Run.blocked(sentence).due("count(7) = 2", "count(8) = -1", "count(-1) = -1", "count(1) = 0", "count(0) = 1");
        new Run(sentence).due("count(7) = 0", "sleep(1) = 0", "count(7) = 0");
    }

    private static void questionsChangeNothing() {
        String[] questions = {"current()", "task(0, 0)", "task(1, 5)", "outcome(1)", "look(0, 0)", "look(0, 2)",
            "watch(0, 2)", "clock()", "count(0)", "count(7)"};
        Run run = Run.withGates("who goes on is told after each call", 2).due("channel(1) = 0", "alarm(0, 0)");
        for (String question : questions) {
            run.times(3, question);
        }
        run.due("current() = 0", "clock() = 0", "count(5) = 1", "look(0, 0) = 0").row(1, 2);
    }
}
