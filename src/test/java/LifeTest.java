/**
 * "An object is used for at most 512 calls after it has been made": runs of just so many calls that ask for as much as
 * can be asked for, whose last calls are answered as the first ones.
 */
public final class LifeTest {
    private static final String SENTENCE = "An object is used for at most 512 calls after it has been made";

    public static void main(String[] args) {
        asManyValues();
        valuesInAndOut();
        valuesGivenBackWithChannels();
        asManyChannels();
        channelsAgainAndAgain();
        tasksAgainAndAgain();
        casesAgainAndAgain();
        casesThatWait();
        casesThatWaitAndWake();
        brokenChoicesAgainAndAgain();
        alarmsAgainAndAgain();
        sleepersAndAlarms();
        sleepsAgainAndAgain();
        refusedAgainAndAgain();
        oneMoreChannel();
        Check.end();
    }

    private static void whole(Run run) {
        Check.due("calls of a run through a whole life", Run.MOST_CALLS, run.length());
    }

    private static void asManyValues() {
        Run run = new Run(SENTENCE).due("channel(8192) = 0");
        for (int i = 0; i < 508; i++) {
            run.due("send(0, " + (1000 + i) + ") = true");
        }
        run.due("look(0, 0) = 508", "receive(0) = true", "outcome(0) = 1000");
        whole(run);
    }

    private static void valuesInAndOut() {
        Run run = new Run(SENTENCE).due("channel(200) = 0");
        for (int i = 0; i < 170; i++) {
            run.due("send(0, " + -i + ") = true");
        }
        for (int i = 0; i < 170; i++) {
            run.due("receive(0) = true", "outcome(0) = " + -i);
        }
        run.due("look(0, 0) = 0");
        whole(run);
    }

    private static void valuesGivenBackWithChannels() {
        Run run = new Run(SENTENCE);
        for (int i = 0; i < 40; i++) {
            run.due("channel(8192) = 0").times(8, "send(0, 5) = true").due("release(0) = true");
        }
        run.due("channel(8192) = 0");
        for (int i = 0; i < 37; i++) {
            run.due("send(0, " + i + ") = true");
        }
        for (int i = 0; i < 37; i++) {
            run.due("receive(0) = true");
        }
        whole(run.due("send(-1, 5) = false").times(36, "task(0, 0) = 7"));
    }

    private static void asManyChannels() {
        Run run = new Run("at most 512 at a time");
        for (int i = 0; i < 512; i++) {
            run.due("channel(16) = " + i);
        }
        whole(run);
        Run empty = new Run("at most 512 at a time");
        for (int i = 0; i < 509; i++) {
            empty.due("channel(0) = " + i);
        }
        whole(empty.due("send(508, 1) = false", "look(508, 2) = 1", "look(509, 0) = throws.NoSuchElementException"));
    }

    private static void channelsAgainAndAgain() {
        Run run = new Run(SENTENCE);
        for (int i = 0; i < 255; i++) {
            run.due("channel(8192) = 0", "release(0) = true");
        }
        whole(run.due("count(2) = 0", "count(3) = 0"));
    }

    private static void tasksAgainAndAgain() {
        Run run = new Run(SENTENCE).due("spawn() = 1");
        for (int i = 0; i < 84; i++) {
            run.due("giveWay() = 1", "spawn() = 2", "finish() = 0", "giveWay() = 2", "finish() = 0", "spawn() = 1");
        }
        whole(run.due("count(0) = 2", "count(1) = 1").times(5, "current() = 0"));
    }

    private static void casesAgainAndAgain() {
        Run run = new Run(SENTENCE).due("channel(0) = 0");
        for (int i = 0; i < 30; i++) {
            for (int k = 0; k < 16; k++) {
                run.due("offer(" + (k % 2 - 1) + ", " + (k % 3 == 0) + ", 1) = " + k);
            }
            run.due("choose(" + i + ", true) = true");
        }
        whole(run.due("release(0) = true"));
    }

    private static void casesThatWait() {
        Run run = new Run(SENTENCE);
        for (int i = 0; i < 16; i++) {
            run.due("channel(0) = " + i);
        }
        run.withTasks(26);
        for (int task = 0; task < 26; task++) {
            for (int i = 0; i < 16; i++) {
                run.due("offer(" + (task + i) % 16 + ", false, 0) = " + i);
            }
            run.due("choose(" + task + ", false) = false");
        }
        run.due("current() = 26", "look(0, 3) = 26", "send(3, 33) = true", "outcome(0) = 33", "task(0, 2) = 3");
        run.due("look(15, 3) = 25", "close(2) = done", "count(1) = 26", "task(25, 5) = 25", "task(25, 2) = 9");
        run.due("task(1, 2) = 1", "look(0, 3) = 0", "look(2, 3) = 0", "look(15, 3) = 0");
        whole(run.times(512 - run.length(), "current() = 26"));
    }

    private static void casesThatWaitAndWake() {
        Run run = new Run(SENTENCE).due("channel(0) = 0", "channel(0) = 1", "spawn() = 1");
        for (int i = 0; i < 84; i++) {
            int chooser = i % 2;
            run.due("offer(0, false, 0) = 0", "offer(1, true, 4) = 1", "offer(0, false, 0) = 2", "choose(0, false) = false");
            run.due("send(0, " + i + ") = true", "outcome(" + chooser + ") = " + i);
        }
        whole(run.due("look(0, 3) = 0", "look(1, 2) = 0").times(3, "clock() = 0"));
    }

    private static void brokenChoicesAgainAndAgain() {
        Run run = new Run(SENTENCE).due("channel(0) = 0", "close(0)");
        for (int i = 0; i < 127; i++) {
            run.due("offer(-1, false, 0) = 0", "offer(0, true, 5) = 1", "offer(-1, true, 0) = 2");
            run.due("choose(" + i + ", true) = throws.UnsupportedOperationException");
        }
        whole(run.due("count(6) = 0", "release(0) = true"));
    }

    private static void alarmsAgainAndAgain() {
        Run run = new Run(SENTENCE).due("channel(300) = 0");
        for (int i = 0; i < 252; i++) {
            run.due("alarm(0, 1) = done", "sleep(1) = 0");
        }
        run.due("look(0, 0) = 252", "clock() = 252", "count(5) = 0");
        whole(run.due("receive(0) = true", "outcome(0) = 1", "receive(0) = true", "outcome(0) = 2"));
    }

    private static void sleepersAndAlarms() {
        Run run = new Run(SENTENCE).due("channel(1) = 0").withTasks(126);
        for (int i = 0; i < 126; i++) {
            run.due("alarm(0, " + i % 7 + ") = done", "sleep(" + (i % 5 + 1) + ")");
        }
        run.due("current() = 126", "count(5) = 126", "receive(-1) = false", "current() = 0", "clock() = 1");
        run.due("count(5) = 90", "look(0, 0) = 1");
        for (int i = 0; i < 26; i++) {
            run.due("giveWay() = " + (i == 25 ? 0 : 5 * (i + 1)));
        }
        for (int i = 0; i < 25; i++) {
            run.due("sleep(1000)");
        }
        run.due("current() = 125", "clock() = 1", "sleep(1000) = 1", "clock() = 2", "count(5) = 72");
        whole(run.times(512 - run.length(), "task(0, 0) = 5"));
    }

    private static void sleepsAgainAndAgain() {
        Run run = new Run(SENTENCE).times(511, "sleep(1000000000) = 0");
        whole(run.due("clock() = 511000000000"));
    }

    private static void refusedAgainAndAgain() {
        Run run = new Run(SENTENCE).due("channel(1) = 0", "send(0, 4)", "close(0)", "gate(0, 0) = 0");
        for (int i = 0; i < 84; i++) {
            run.due("send(0, 1) = throws.UnsupportedOperationException", "send(1, 1) = throws.IllegalArgumentException");
            run.due("leave(0) = throws.UnsupportedOperationException", "offer(1, true, 1) = throws.IllegalArgumentException");
            run.due("alarm(-1, 1) = throws.IllegalArgumentException", "release(-1) = false");
        }
        whole(run.due("receive(0) = true", "outcome(0) = 4", "current() = 0", "count(6) = 0"));
    }

    /** The 513th channel could only be asked for by a 513th call: what it answers is free, but the program refuses it. */
    private static void oneMoreChannel() {
        TaskDesk x = new TaskDesk();
        for (int i = 0; i < 512; i++) {
            x.channel(0);
        }
        Check.state("channel(0) when there are 512", () -> x.channel(0));
        Check.due("count(2)", 512, x.count(2));
        Check.due("release(300)", true, x.release(300));
        Check.due("channel(0)", 300, x.channel(0));
        Check.state("channel(0) when there are 512", () -> x.channel(0));
    }
}
