/** The sentences on choices that name a bound or what happens at one. */
public final class ChoiceEdgesTest {
    private static final String LEAST = "" + Integer.MIN_VALUE;
    private static final String GREATEST = "" + Integer.MAX_VALUE;

    public static void main(String[] args) {
        upTo16Cases();
        readyCases();
        closedIsReadyToo();
        byTheRemainder();
        byTheRemainderOfOne();
        wayOut();
        wayOutIsNotTaken();
        waitsInAllInTheirOrder();
        asIfEachWereAlone();
        whoComesFirst();
        closedWhileItWaits();
        promise12();
        promise12Wrong();
        promise12NoCurrent();
        promise12WhoeverChoosesNext();
        promise13CasesAreNoneThen();
        promise13AtOnce();
        promise13Wrong();
        promise13NoCurrent();
        promise13Broken();
        promise13BrokenIsOneOfMany();
        Check.end();
    }

    // ---- Terms: CHOICE

    private static void upTo16Cases() {
        Run run = new Run("A CHOICE has up to 16 CASES, numbered in the order in which they are told");
        run.due("channel(1) = 0");
        for (int i = 0; i < 15; i++) {
            run.due("offer(-1, true, 1) = " + i, "count(6) = " + (i + 1));
        }
        run.due("offer(0, true, 151) = 15", "count(6) = 16", "offer(0, true, 1) = throws.IllegalStateException");
        run.due("offer(-1, false, 1) = throws.IllegalStateException", "count(6) = 16", "choose(0, false) = true");
        run.outcome(0, 0, true, 15, false).due("count(6) = 0", "offer(0, false, 0) = 0", "choose(16, false) = true");
        run.outcome(0, 151, true, 0, false);
    }

    private static void readyCases() {
        String sentence = "Those that would not have to wait are ready";
        Run run = new Run(sentence).withTasks(3).due("channel(1) = 0", "channel(1) = 1", "channel(0) = 2");
        run.due("channel(0) = 3", "channel(0) = 4", "send(0, 1)", "send(2, 1) = false", "receive(3) = false");
        run.due("current() = 2");
        String[] cases = {
            "offer(0, true, 1)", "offer(0, false, 0)", "offer(1, true, 1)", "offer(1, false, 0)", "offer(2, true, 1)",
            "offer(2, false, 0)", "offer(3, true, 1)", "offer(3, false, 0)", "offer(4, true, 1)", "offer(4, false, 0)",
            "offer(-1, true, 1)", "offer(-1, false, 0)"
        };
        boolean[] ready = {false, true, true, false, false, true, true, false, false, false, false, false};
        run.due(cases).due("choose(4, true) = true", "task(2, 2) = 1");
        for (int i = 0; i < cases.length; i++) {
            Run alone = new Run(sentence).withTasks(3).due("channel(1) = 0", "channel(1) = 1", "channel(0) = 2");
            alone.due("channel(0) = 3", "channel(0) = 4", "send(0, 1)", "send(2, 1) = false", "receive(3) = false");
            alone.due(cases[i], "choose(0, true) = true", "task(2, 2) = " + (ready[i] ? 0 : -1));
            alone.due("task(2, 3) = " + (ready[i] ? 1 : 0), "current() = 2");
        }
    }

    private static void closedIsReadyToo() {
        String sentence = "(to send to a closed channel, too)";
        new Run(sentence).due("channel(0) = 0", "close(0)", "offer(0, false, 0)", "choose(0, false) = true")
                .outcome(0, 0, false, 0, false);
        new Run(sentence).due("channel(0) = 0", "close(0)", "offer(0, true, 1)")
                .due("choose(0, false) = throws.UnsupportedOperationException", "current() = 0");
        new Run(sentence).due("channel(0) = 0", "close(0)", "offer(0, true, 1)")
                .due("choose(0, true) = throws.UnsupportedOperationException", "current() = 0");
        new Run(sentence).due("channel(0) = 0", "channel(1) = 1", "close(0)", "offer(0, true, 1)", "offer(1, true, 1)")
                .due("choose(1, false) = true").outcome(0, 0, true, 1, false);
    }

    /** Of six cases the second, fourth and fifth are ready. */
    private static Run threeReady(String sentence) {
        return new Run(sentence).due("channel(2) = 0", "channel(1) = 1", "send(1, 91)", "offer(0, false, 0)")
                .due("offer(0, true, 81)", "offer(-1, true, 1)", "offer(1, false, 0)", "offer(0, true, 82)")
                .due("offer(1, true, 1)");
    }

    private static void byTheRemainder() {
        int[] numbers = {0, 1, 2, 3, 4, 5, 6, 1000000000, Integer.MAX_VALUE};
        int[] cases = {1, 3, 4, 1, 3, 4, 1, 3, 3};
        for (int i = 0; i < numbers.length; i++) {
            Run run = threeReady("If some are, the (n modulo how many)-th of them (from 0) is done");
            run.due("choose(" + numbers[i] + ", false) = true").outcome(0, cases[i] == 3 ? 91 : 0, true, cases[i], false);
            run.due("look(0, 0) = " + (cases[i] == 3 ? 0 : 1), "look(1, 0) = " + (cases[i] == 3 ? 0 : 1));
            if (cases[i] != 3) {
                run.due("receive(0)", "outcome(0) = " + (cases[i] == 1 ? 81 : 82));
            }
        }
    }

    private static void byTheRemainderOfOne() {
        String sentence = "the (n modulo how many)-th of them (from 0) is done";
        for (String n : new String[] {"0", "1", "7", GREATEST}) {
            new Run(sentence).due("channel(1) = 0", "offer(0, false, 0)", "offer(0, true, 4)", "offer(-1, true, 4)")
                    .due("choose(" + n + ", false) = true").outcome(0, 0, true, 1, false).due("look(0, 0) = 1");
        }
        for (int n = 0; n < 33; n++) {
            Run run = new Run(sentence).due("channel(1) = 0");
            for (int i = 0; i < 16; i++) {
                run.due("offer(0, true, " + (40 + i) + ") = " + i);
            }
            run.due("choose(" + n + ", false) = true", "task(0, 2) = " + n % 16, "receive(0)");
            run.due("outcome(0) = " + (40 + n % 16));
        }
    }

    private static void wayOut() {
        String sentence = "if none is, and there is a way out, nothing is (case NONE, number 0, flag false)";
        new Run(sentence).withTasks(1).due("channel(1) = 0", "send(0, 6)", "offer(0, false, 0)", "choose(0, false) = true")
                .outcome(0, 6, true, 0, false).due("offer(0, false, 0)", "offer(-1, true, 1)", "choose(3, true) = true")
                .outcome(0, 0, false, -1, false).due("current() = 0", "look(0, 3) = 0", "count(6) = 0");
        new Run(sentence).withTasks(1).due("channel(0) = 0", "offer(0, true, 1)", "choose(0, true) = true")
                .outcome(0, 0, false, -1, false).due("look(0, 2) = 0", "release(0) = true");
        new Run(sentence).due("choose(0, true) = true", "choose(" + GREATEST + ", true) = true", "current() = 0")
                .outcome(0, 0, false, -1, false);
    }

    private static void wayOutIsNotTaken() {
        new Run("If some are, the (n modulo how many)-th of them (from 0) is done; if none is, and there is a way out")
                .due("channel(1) = 0", "offer(-1, true, 1)", "offer(0, true, 5)", "choose(1, true) = true")
                .outcome(0, 0, true, 1, false).due("look(0, 0) = 1");
    }

    private static void waitsInAllInTheirOrder() {
        String sentence = "else it waits in all of them, in their order, as if each were alone";
        new Run(sentence).withTasks(1).due("channel(0) = 0", "channel(1) = 1", "send(1, 1)", "offer(0, true, 51)")
                .due("offer(0, true, 52)", "offer(1, true, 53)", "offer(-1, false, 0)", "choose(2, false) = false")
                .due("current() = 1", "task(0, 0) = 4", "task(0, 1) = -1", "look(0, 2) = 2", "look(1, 2) = 1")
                .due("count(6) = 0", "receive(0) = true").outcome(1, 51, true, -1, false).outcome(0, 0, true, 0, false);
        new Run(sentence).withTasks(1).due("channel(0) = 0", "offer(0, false, 0)", "offer(0, false, 0)")
                .due("choose(1, false) = false", "look(0, 3) = 2", "send(0, 61) = true").outcome(0, 61, true, 0, false)
                .row(0).due("look(0, 3) = 0", "send(0, 62) = false");
        new Run(sentence).withTasks(1).due("channel(0) = 0", "offer(0, true, 7)", "offer(0, false, 0)")
                .due("choose(0, false) = false", "look(0, 2) = 1", "look(0, 3) = 1", "current() = 1");
    }

    private static void asIfEachWereAlone() {
        new Run("as if each were alone").withTasks(4).due("channel(0) = 0", "channel(0) = 1", "receive(0) = false")
                .due("offer(1, false, 0)", "offer(0, false, 0)", "choose(0, false) = false", "receive(0) = false")
                .due("receive(1) = false", "send(0, 100)", "send(0, 101)", "send(0, 102)", "send(1, 103)")
                .outcome(0, 100, true, -1, false).outcome(1, 101, true, 1, false).outcome(2, 102, true, -1, false)
                .outcome(3, 103, true, -1, false).row(0, 1, 2, 3);
    }

    private static void whoComesFirst() {
        String sentence = "who comes first takes it out of the others";
        new Run(sentence).withTasks(2).due("channel(0) = 0", "channel(1) = 1", "channel(0) = 2", "send(1, 1)")
                .due("offer(0, false, 0)", "offer(1, true, 2)", "offer(2, false, 0)", "choose(0, false) = false")
                .due("send(2, 72) = true").outcome(0, 72, true, 2, false).due("look(0, 3) = 0", "look(1, 2) = 0")
                .due("look(2, 3) = 0").row(2, 0).due("receive(1)", "look(1, 0) = 0", "release(0) = true");
        new Run(sentence).withTasks(2).due("channel(0) = 0", "channel(1) = 1", "send(1, 1)", "offer(0, false, 0)")
                .due("offer(1, true, 2)", "choose(0, false) = false", "receive(1) = true").outcome(0, 0, true, 1, false)
                .due("look(0, 3) = 0", "look(1, 2) = 0", "look(1, 0) = 1", "send(0, 1) = false");
        new Run(sentence).due("channel(0) = 0", "channel(0) = 1", "alarm(1, 3)", "alarm(0, 3)", "offer(0, false, 0)")
                .due("offer(1, false, 0)", "choose(0, false) = false", "current() = 0").outcome(0, 3, true, 1, false)
                .due("look(0, 3) = 0", "look(1, 3) = 0", "count(5) = 0", "look(0, 0) = 0");
    }

    private static void closedWhileItWaits() {
        String sentence = "all that wait to receive wake, in their order, with 0, flag false and their cases; "
                + "then all that wait to send, broken (with their cases)";
        new Run(sentence).withTasks(1).due("channel(0) = 0", "channel(0) = 1", "offer(0, true, 1)", "offer(1, false, 0)")
                .due("choose(0, false) = false", "close(1)").outcome(0, 0, false, 1, false)
                .due("look(0, 2) = 0", "close(0)").row(0).outcome(0, 0, false, 1, false);
        new Run(sentence).withTasks(1).due("channel(0) = 0", "channel(0) = 1", "offer(0, true, 1)", "offer(1, false, 0)")
                .due("choose(0, false) = false", "close(0)").outcome(0, 0, false, 0, true).due("look(1, 3) = 0").row(0);
    }

    // ---- promise 12

    private static void promise12() {
        new Run("A case of its next choice more, to send a value, or to receive: its number.")
                .due("channel(1) = 0", "offer(0, true, " + Long.MIN_VALUE + ") = 0", "count(6) = 1", "look(0, 0) = 0")
                .due("look(0, 2) = 0", "choose(0, false) = true", "offer(0, true, 1) = 0", "offer(0, false, 1) = 1")
                .due("choose(0, false) = true").outcome(0, Long.MIN_VALUE, true, 1, false);
    }

    private static void promise12Wrong() {
        Run run = new Run("IllegalArgumentException: there is no such channel; "
                + "IllegalStateException: there is no current one, or 16 are told.");
        run.due("offer(0, true, 1) = throws.IllegalArgumentException", "channel(1) = 0", "channel(1) = 1");
        for (String channel : new String[] {"-2", "2", "511", "512", LEAST, GREATEST}) {
            run.due("offer(" + channel + ", true, 1) = throws.IllegalArgumentException");
            run.due("offer(" + channel + ", false, 1) = throws.IllegalArgumentException");
        }
        run.due("count(6) = 0", "offer(-1, true, 1) = 0", "offer(1, true, 1) = 1");
        run.times(14, "offer(-1, true, 1)").due("count(6) = 16", "offer(0, true, 1) = throws.IllegalStateException");
        run.due("offer(2, true, 1) = throws.IllegalArgumentException", "count(6) = 16");
        run.due("choose(0, false) = true", "task(0, 2) = 1", "offer(0, true, 1) = 0");
    }

    private static void promise12NoCurrent() {
        String sentence = "IllegalStateException: there is no current one, or 16 are told.";
        Run[] runs = {Run.over(sentence), Run.blocked(sentence)};
        for (Run run : runs) {
            run.due("offer(0, true, 1) = throws.IllegalStateException", "offer(-1, true, 1) = throws.IllegalStateException");
            run.due("offer(1, true, 1) = throws.IllegalArgumentException", "count(6) = 0", "release(0) = true");
        }
    }

    private static void promise12WhoeverChoosesNext() {
        String sentence = "(Cases are told for whoever chooses next, whichever task told them.)";
        new Run(sentence).withTasks(2).due("channel(1) = 0", "offer(0, true, 5) = 0", "giveWay() = 1")
                .due("offer(-1, false, 0) = 1", "count(6) = 2", "finish() = 2", "count(6) = 2", "choose(1, false) = true")
                .outcome(2, 0, true, 0, false).outcome(0, 0, false, -1, false).due("count(6) = 0", "look(0, 0) = 1");
        new Run(sentence).withTasks(1).due("channel(0) = 0", "offer(0, false, 0) = 0", "sleep(4) = 1")
                .due("choose(0, false) = false", "current() = 0", "task(1, 0) = 4", "send(0, 3) = true")
                .outcome(1, 3, true, 0, false);
    }

    // ---- promise 13

    private static void promise13CasesAreNoneThen() {
        String sentence = "Its choice by the cases that were told, which are none then (but by the first two exceptions)";
        new Run(sentence).due("channel(1) = 0", "offer(0, true, 1)", "choose(0, false) = true", "count(6) = 0")
                .due("choose(0, true) = true").outcome(0, 0, false, -1, false);
        new Run(sentence).due("channel(1) = 0", "offer(0, false, 1)", "choose(0, true) = true", "count(6) = 0");
        new Run(sentence).withTasks(1).due("channel(1) = 0", "offer(0, false, 1)", "choose(0, false) = false")
                .due("count(6) = 0", "choose(0, true) = true", "look(0, 3) = 1");
        new Run(sentence).due("channel(1) = 0", "close(0)", "offer(0, true, 1)", "offer(-1, true, 1)")
                .due("choose(0, false) = throws.UnsupportedOperationException", "count(6) = 0", "offer(-1, true, 1) = 0");
        new Run(sentence).due("channel(1) = 0", "offer(0, true, 41)", "choose(-1, false) = throws.IllegalArgumentException")
                .due("count(6) = 1", "choose(0, false) = true", "receive(0)", "outcome(0) = 41");
        new Run(sentence).due("channel(1) = 0", "offer(0, true, 41)", "finish() = -1")
                .due("choose(0, false) = throws.IllegalStateException", "count(6) = 1", "look(0, 0) = 0");
    }

    private static void promise13AtOnce() {
        String sentence = "true when it goes on at once (also by the way out)";
        new Run(sentence).withTasks(1).due("channel(1) = 0", "offer(0, true, 1)", "choose(0, false) = true", "current() = 0")
                .due("offer(0, true, 1)", "choose(0, true) = true", "current() = 0", "offer(0, true, 1)")
                .due("choose(0, false) = false", "current() = 1", "receive(0) = true").row(0);
        new Run(sentence).due("channel(0) = 0", "alarm(0, 1)", "offer(0, false, 1)", "choose(0, false) = false")
                .due("current() = 0").outcome(0, 1, true, 0, false);
    }

    private static void promise13Wrong() {
        Run run = new Run("IllegalArgumentException: n is below 0").due("channel(1) = 0", "offer(0, true, 5)");
        for (String n : new String[] {"-1", "-2", LEAST}) {
            run.due("choose(" + n + ", true) = throws.IllegalArgumentException");
            run.due("choose(" + n + ", false) = throws.IllegalArgumentException", "count(6) = 1", "look(0, 0) = 0");
        }
        run.outcome(0, 0, false, -1, false).due("choose(0, true) = true").outcome(0, 0, true, 0, false);
        run.due("close(0)", "offer(0, true, 5)", "choose(-1, true) = throws.IllegalArgumentException", "count(6) = 1");
    }

    private static void promise13NoCurrent() {
        String sentence = "IllegalStateException: there is no current one; "
                + "UnsupportedOperationException: the case that is taken is broken.";
        Run[] runs = {Run.over(sentence), Run.blocked(sentence)};
        for (Run run : runs) {
            run.due("choose(0, true) = throws.IllegalStateException", "choose(0, false) = throws.IllegalStateException");
            run.due("choose(-1, true) = throws.IllegalArgumentException");
        }
        new Run(sentence).due("channel(1) = 0", "offer(0, true, 1)", "close(0)", "receive(-1) = false")
                .due("choose(0, true) = throws.IllegalStateException", "count(6) = 1", "release(0) = false");
    }

    private static void promise13Broken() {
        String sentence = "(but cases that were told are none when a choice is broken)";
        new Run(sentence).withTasks(1).due("channel(1) = 0", "channel(1) = 1", "send(1, 8)", "offer(1, false, 0)")
                .due("choose(0, false) = true", "close(0)", "offer(1, true, 5)", "offer(0, true, 6)")
                .due("choose(1, true) = throws.UnsupportedOperationException", "count(6) = 0", "look(1, 0) = 0")
                .outcome(0, 8, true, 0, false).due("current() = 0", "release(0) = true", "offer(1, true, 7) = 0")
                .due("choose(0, false) = true").outcome(0, 0, true, 0, false).due("receive(1)", "outcome(0) = 7");
    }

    private static void promise13BrokenIsOneOfMany() {
        String sentence = "UnsupportedOperationException: the case that is taken is broken.";
        for (int n = 0; n < 6; n++) {
            Run run = new Run(sentence).due("channel(1) = 0", "channel(0) = 1", "close(1)", "offer(-1, true, 1)");
            run.due("offer(0, true, 1)", "offer(1, true, 2)", "offer(0, false, 0)", "offer(1, false, 0)");
            String want = n % 3 == 1 ? "throws.UnsupportedOperationException" : "true";
            run.due("choose(" + n + ", true) = " + want, "count(6) = 0");
            run.due("task(0, 2) = " + (n % 3 == 0 ? 1 : n % 3 == 1 ? -1 : 4), "task(0, 3) = " + (n % 3 == 0 ? 1 : 0));
            run.due("task(0, 4) = 0", "look(0, 0) = " + (n % 3 == 0 ? 1 : 0));
        }
    }
}
