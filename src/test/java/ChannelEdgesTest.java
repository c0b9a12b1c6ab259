/** The sentences on channels and alarms that name a bound or what happens at one. */
public final class ChannelEdgesTest {
    private static final String LEAST = "" + Integer.MIN_VALUE;
    private static final String GREATEST = "" + Integer.MAX_VALUE;
    /** None of them is there when channels 0 and 1 are. */
    private static final String[] NO_CHANNELS = {"-2", "2", "255", "256", "511", "512", "513", LEAST, GREATEST};

    public static void main(String[] args) {
        leastFreeNumber();
        roomAllTogether();
        valuesInTheirOrder();
        sendToClosed();
        sendToWhoWaits();
        sendIntoRoom();
        sendWaitsBehindOthers();
        receiveValuesAndLetSendersIn();
        receiveWithoutRoom();
        receiveFromClosed();
        receiveWaitsBehindOthers();
        whoHasSent();
        closingWakesReceiversFirst();
        closingWithNobody();
        nowhere();
        promise6();
        promise6TooMuch();
        promise6WhenNobodyIsCurrent();
        promise7NoSuchChannel();
        promise7SomebodyWaits();
        promise7Alarm();
        promise7CaseTold();
        promise7ValuesAreGone();
        promise7WhenNobodyIsCurrent();
        promise8Sends();
        promise8IsLost();
        promise8NoTime();
        promise8WrongArguments();
        promise8AtMost256();
        promise8NoCurrent();
        promise9AtOnce();
        promise9();
        promise10();
        promise11();
        promise22();
        promise22InChoices();
        promise22Wrong();
        Check.end();
    }

    // ---- Terms: CHANNELS

    private static void leastFreeNumber() {
        new Run("CHANNELS, numbered 0, 1, .. (the least free number)")
                .due("channel(0) = 0", "channel(0) = 1", "channel(0) = 2", "channel(0) = 3", "release(2) = true")
                .due("release(0) = true", "channel(0) = 0", "channel(0) = 2", "channel(0) = 4", "release(4) = true")
                .due("channel(0) = 4", "count(2) = 5");
    }

    private static void roomAllTogether() {
        String sentence = "have a ROOM for 0 or more values, of all together at most 8192";
        new Run(sentence).due("channel(8192) = 0", "count(3) = 8192", "channel(1) = throws.IllegalStateException")
                .due("channel(8192) = throws.IllegalStateException", "channel(0) = 1", "count(3) = 8192", "count(2) = 2")
                .due("release(0) = true", "count(3) = 0", "channel(8192) = 0");
        new Run(sentence).due("channel(8191) = 0", "channel(2) = throws.IllegalStateException", "channel(1) = 1")
                .due("channel(1) = throws.IllegalStateException", "count(3) = 8192", "release(1) = true")
                .due("count(3) = 8191", "channel(2) = throws.IllegalStateException", "channel(1) = 1");
    }

    private static void valuesInTheirOrder() {
        Run run = new Run("Values are longs, kept in the order in which they came.").due("channel(5) = 0");
        long[] values = {Long.MAX_VALUE, Long.MIN_VALUE, 0, -1, 1L << 40};
        for (long value : values) {
            run.due("send(0, " + value + ") = true");
        }
        for (long value : values) {
            run.due("receive(0) = true", "outcome(0) = " + value);
        }
        run.due("send(0, 1)", "send(0, 2)", "receive(0)", "outcome(0) = 1", "send(0, 3)", "receive(0)");
        run.due("outcome(0) = 2", "receive(0)", "outcome(0) = 3", "look(0, 0) = 0");
    }

    private static void sendToClosed() {
        String sentence = "To SEND a value: when the channel is closed, it is broken";
        for (int room = 0; room <= 3; room++) {
            new Run(sentence).due("spawn() = 1", "channel(" + room + ") = 0", "close(0)")
                    .due("send(0, 5) = throws.UnsupportedOperationException", "current() = 0", "look(0, 0) = 0")
                    .due("look(0, 2) = 0").outcome(0, 0, false, -1, false);
        }
        new Run(sentence).due("channel(2) = 0", "send(0, 4) = true", "close(0)")
                .due("send(0, 5) = throws.UnsupportedOperationException", "look(0, 0) = 1", "receive(0) = true")
                .outcome(0, 4, true, -1, false).due("send(0, 6) = throws.UnsupportedOperationException")
                .outcome(0, 4, true, -1, false);
    }

    private static void sendToWhoWaits() {
        String sentence = "when a task waits to receive from it, the first such one wakes, with the value, flag true and its case";
        for (int room = 0; room <= 1; room++) {
            new Run(sentence).withTasks(3).due("channel(" + room + ") = 0", "receive(0) = false", "offer(-1, true, 0)")
                    .due("offer(0, false, 0)", "choose(0, false) = false", "receive(0) = false", "send(0, 81) = true")
                    .due("look(0, 0) = 0", "look(0, 3) = 2").outcome(0, 81, true, -1, false).row(0)
                    .due("send(0, 82) = true", "look(0, 0) = 0").outcome(1, 82, true, 1, false).row(0, 1)
                    .due("send(0, 83) = true", "look(0, 0) = 0").outcome(2, 83, true, -1, false).row(0, 1, 2);
        }
    }

    private static void sendIntoRoom() {
        String sentence = "else, when fewer than ROOM values are there, it is put behind them; else it waits to send";
        for (int room = 0; room <= 4; room++) {
            Run run = new Run(sentence).due("spawn() = 1", "channel(" + room + ") = 0");
            for (int i = 0; i < room; i++) {
                run.due("send(0, " + i + ") = true", "current() = 0", "look(0, 0) = " + (i + 1));
            }
            run.due("send(0, 99) = false", "current() = 1", "look(0, 0) = " + room, "look(0, 2) = 1");
            run.due("task(0, 0) = 2", "task(0, 1) = 0");
        }
    }

    private static void sendWaitsBehindOthers() {
        new Run("else it waits to send, behind others").withTasks(3)
                .due("channel(1) = 0", "send(0, 10) = true", "send(0, 11) = false", "offer(0, true, 12)")
                .due("choose(0, false) = false", "send(0, 13) = false", "look(0, 2) = 3", "receive(0)", "receive(0)")
                .due("outcome(3) = 11", "receive(0)", "outcome(3) = 12", "receive(0)", "outcome(3) = 13").row(0, 1, 2);
    }

    private static void receiveValuesAndLetSendersIn() {
        String sentence = "when values are there, the first one, flag true, and then the first task that waits to send "
                + "(if there is one) has its value put behind them, and wakes";
        new Run(sentence).withTasks(3).due("channel(2) = 0", "send(0, 1)", "send(0, 2)", "send(0, 3) = false")
                .due("send(0, 4) = false", "receive(0) = true").outcome(2, 1, true, -1, false)
                .due("look(0, 0) = 2", "look(0, 2) = 1").row(3, 0).outcome(0, 0, true, -1, false)
                .due("receive(0)", "outcome(2) = 2", "look(0, 0) = 2", "look(0, 2) = 0").row(3, 0, 1)
                .due("receive(0)", "outcome(2) = 3", "look(0, 0) = 1", "receive(0)", "outcome(2) = 4", "look(0, 0) = 0");
        new Run(sentence).due("channel(1) = 0", "send(0, 1)", "receive(0) = true", "look(0, 0) = 0", "count(1) = 0")
                .outcome(0, 1, true, -1, false);
    }

    private static void receiveWithoutRoom() {
        new Run("else, when one waits to send, the first one's value, flag true, and that one wakes").withTasks(3)
                .due("channel(0) = 0", "send(0, 21) = false", "offer(-1, true, 0)", "offer(0, true, 22)")
                .due("choose(0, false) = false", "receive(0) = true").outcome(2, 21, true, -1, false)
                .outcome(0, 0, true, -1, false).row(3, 0).due("look(0, 0) = 0", "look(0, 2) = 1", "receive(0) = true")
                .outcome(2, 22, true, -1, false).outcome(1, 0, true, 1, false).row(3, 0, 1).due("look(0, 2) = 0");
    }

    private static void receiveFromClosed() {
        new Run("else, when the channel is closed, 0 and flag false").withTasks(1)
                .due("channel(2) = 0", "send(0, 31)", "close(0)", "receive(0) = true").outcome(0, 31, true, -1, false)
                .due("receive(0) = true").outcome(0, 0, false, -1, false).due("receive(0) = true", "current() = 0")
                .outcome(0, 0, false, -1, false).due("look(0, 3) = 0");
    }

    private static void receiveWaitsBehindOthers() {
        new Run("else it waits to receive, behind others").withTasks(3)
                .due("channel(3) = 0", "receive(0) = false", "current() = 1", "task(0, 0) = 3", "task(0, 1) = 0")
                .due("receive(0) = false", "receive(0) = false", "look(0, 3) = 3", "send(0, 1)", "send(0, 2)")
                .due("send(0, 3)", "outcome(0) = 1", "outcome(1) = 2", "outcome(2) = 3").row(0, 1, 2);
    }

    private static void whoHasSent() {
        String sentence = "Who has sent, at once or woken, has number 0, flag true, and its case.";
        Run run = new Run(sentence).withTasks(1).due("channel(1) = 0", "send(0, 9)", "receive(0)");
        run.outcome(0, 9, true, -1, false).due("send(0, 9) = true").outcome(0, 0, true, -1, false).due("receive(0)");
        run.due("offer(-1, true, 1)", "offer(-1, true, 1)", "offer(0, true, 9)", "choose(0, false) = true");
        run.outcome(0, 0, true, 2, false).due("receive(0)", "send(0, 7)", "offer(-1, true, 1)", "offer(0, true, 8)");
        run.due("choose(0, false) = false", "receive(0)").outcome(1, 7, true, -1, false).outcome(0, 0, true, 1, false);
    }

    private static void closingWakesReceiversFirst() {
        String sentence = "all that wait to receive wake, in their order, with 0, flag false and their cases; "
                + "then all that wait to send, broken (with their cases)";
        new Run(sentence).withTasks(4).due("channel(0) = 0", "channel(0) = 1", "receive(0) = false")
                .due("offer(-1, false, 0)", "offer(1, false, 0)", "offer(0, false, 0)", "offer(0, false, 0)")
                .due("choose(0, false) = false", "receive(0) = false", "look(0, 3) = 4", "close(0)", "look(0, 4) = 1")
                .row(4, 0, 1, 2).outcome(0, 0, false, -1, false).outcome(1, 0, false, 2, false)
                .outcome(2, 0, false, -1, false).due("look(0, 3) = 0", "look(1, 3) = 0", "current() = 3");
        new Run(sentence).withTasks(4).due("channel(1) = 0", "send(0, 1) = true", "send(0, 2) = false")
                .due("offer(-1, false, 0)", "offer(0, true, 3)", "offer(0, true, 3)", "choose(0, false) = false")
                .due("send(0, 4) = false", "look(0, 2) = 4", "close(0)", "look(0, 2) = 0", "look(0, 0) = 1")
                .row(4, 0, 1, 2).outcome(0, 0, false, -1, true).outcome(1, 0, false, 1, true)
                .outcome(2, 0, false, -1, true);
        new Run(sentence).withTasks(1).due("channel(0) = 0", "offer(0, true, 5)", "offer(0, false, 0)")
                .due("choose(0, false) = false", "look(0, 2) = 1", "look(0, 3) = 1", "close(0)")
                .outcome(0, 0, false, 1, false).row(0).due("look(0, 2) = 0", "look(0, 3) = 0");
    }

    private static void closingWithNobody() {
        new Run("all that wait to receive wake, in their order").withTasks(1)
                .due("channel(0) = 0", "channel(0) = 1", "receive(1) = false", "close(0)", "count(1) = 0")
                .due("task(0, 0) = 3", "look(1, 3) = 1", "look(1, 4) = 0", "look(0, 4) = 1", "current() = 1");
    }

    private static void nowhere() {
        String sentence = "Channel -1 is NOWHERE: who sends there, or receives from it, waits for good "
                + "(in a choice that case is never ready).";
        new Run(sentence).withTasks(2).due("send(-1, 5) = false", "receive(-1) = false", "current() = 2")
                .due("task(0, 0) = 7", "task(1, 0) = 7", "send(-1, 5) = false", "count(7) = 2");
        new Run(sentence).withTasks(1).due("receive(-1) = false", "offer(-1, true, 5)", "offer(-1, false, 5)")
                .due("choose(0, true) = true").outcome(1, 0, false, -1, false).due("task(0, 0) = 7")
                .due("offer(-1, true, 5)", "offer(-1, false, 5)", "choose(1, false) = false", "count(7) = 2");
    }

    // ---- promises 6 and 7

    private static void promise6() {
        Run run = new Run("IllegalArgumentException: room is not 0 .. 8192");
        for (String room : new String[] {"-1", "8193", LEAST, GREATEST}) {
            run.due("channel(" + room + ") = throws.IllegalArgumentException", "count(2) = 0", "count(3) = 0");
        }
        run.due("channel(0) = 0", "look(0, 1) = 0", "channel(8192) = 1", "look(1, 1) = 8192");
        run.due("channel(8193) = throws.IllegalArgumentException", "channel(-1) = throws.IllegalArgumentException");
        run.due("look(0, 0) = 0", "look(0, 4) = 0", "count(2) = 2");
    }

    private static void promise6TooMuch() {
        Run run = new Run("IllegalStateException: there are 512, or it would be too much room.").due("channel(4096) = 0");
        run.due("channel(4097) = throws.IllegalStateException", "count(2) = 1", "count(3) = 4096", "channel(4095) = 1");
        run.due("channel(2) = throws.IllegalStateException", "channel(1) = 2", "channel(1) = throws.IllegalStateException");
        run.due("channel(0) = 3", "release(3) = true", "release(2) = true", "channel(2) = throws.IllegalStateException");
        run.due("release(1) = true", "channel(4097) = throws.IllegalStateException", "channel(4096) = 1");
        run.due("count(3) = 8192", "count(2) = 2");
    }

    private static void promise6WhenNobodyIsCurrent() {
        String sentence = "A new channel (also when nobody is current, as for release() and gate()): its number.";
        Run[] runs = {Run.over(sentence), Run.blocked(sentence)};
        for (Run run : runs) {
            run.due("channel(3) = 1", "look(1, 1) = 3", "channel(8190) = throws.IllegalStateException");
            run.due("channel(-1) = throws.IllegalArgumentException", "release(1) = true", "channel(8190) = 1");
            run.due("channel(0) = 2", "count(2) = 3", "count(3) = 8192", "gate(4, 0) = 5", "gate(3, 0) = 6");
            run.due("gate(3, 1) = throws.IllegalArgumentException", "gate(5, 0) = throws.IllegalArgumentException");
            run.due("count(4) = 7");
        }
    }

    private static void promise7NoSuchChannel() {
        Run run = new Run("False, changing nothing, when there is no such channel (NOWHERE is none)");
        run.due("release(0) = false", "channel(1) = 0", "channel(1) = 1", "release(-1) = false");
        for (String channel : NO_CHANNELS) {
            run.due("release(" + channel + ") = false");
        }
        run.due("count(2) = 2", "release(1) = true", "release(1) = false", "count(2) = 1", "count(3) = 1");
    }

    private static void promise7SomebodyWaits() {
        String sentence = "or somebody waits at it";
        new Run(sentence).withTasks(1).due("channel(0) = 0", "send(0, 1) = false", "release(0) = false")
                .due("look(0, 2) = 1", "receive(0) = true", "release(0) = true");
        new Run(sentence).withTasks(1).due("channel(2) = 0", "receive(0) = false", "release(0) = false")
                .due("look(0, 3) = 1", "send(0, 1) = true", "release(0) = true");
        new Run(sentence).withTasks(1).due("channel(0) = 0", "channel(0) = 1", "offer(0, true, 1)", "offer(1, false, 0)")
                .due("choose(0, false) = false", "release(0) = false", "release(1) = false", "send(1, 4) = true")
                .due("release(0) = true", "release(1) = true").outcome(0, 4, true, 1, false);
        new Run(sentence).withTasks(1).due("channel(1) = 0", "send(0, 1)", "send(0, 2) = false", "release(0) = false")
                .due("close(0)", "release(0) = true", "count(2) = 0");
    }

    private static void promise7Alarm() {
        String sentence = "an alarm is to ring there";
        new Run(sentence).due("channel(2) = 0", "channel(1) = 1", "alarm(0, 3)", "alarm(0, 5)", "release(0) = false")
                .due("release(1) = true", "sleep(4) = 0", "release(0) = false", "sleep(4) = 0", "release(0) = true");
        new Run(sentence).due("channel(0) = 0", "close(0)", "alarm(0, 0)", "release(0) = false", "sleep(1) = 0")
                .due("count(5) = 0", "release(0) = true", "alarm(0, 0) = throws.IllegalArgumentException");
        new Run(sentence).due("channel(0) = 0", "alarm(0, 3)", "finish() = -1", "release(0) = false", "count(5) = 1");
    }

    private static void promise7CaseTold() {
        String sentence = "or a case that was told names it";
        for (int from = 0; from < 16; from++) {
            Run run = new Run(sentence).due("channel(1) = 0", "channel(1) = 1");
            for (int i = 0; i < 16; i++) {
                run.due("offer(" + (i == from ? 0 : -1) + ", false, 0) = " + i);
            }
            run.due("release(0) = false", "release(1) = true", "count(6) = 16", "choose(0, true) = true");
            run.due("release(0) = true");
        }
        new Run(sentence).due("channel(1) = 0", "offer(0, true, 0)", "release(0) = false", "choose(0, false) = true")
                .due("release(0) = true");
        new Run(sentence).due("channel(1) = 0", "offer(0, true, 0)", "close(0)", "release(0) = false")
                .due("choose(0, false) = throws.UnsupportedOperationException", "release(0) = true");
        new Run(sentence).due("channel(1) = 0", "offer(0, true, 0)", "finish() = -1", "release(0) = false");
        new Run(sentence).due("channel(1) = 0", "offer(0, true, 0)", "receive(-1) = false", "release(0) = false");
    }

    private static void promise7ValuesAreGone() {
        new Run("A channel is given back: its number is free. Values in it are gone.")
                .due("channel(3) = 0", "send(0, 5)", "send(0, 6)", "send(0, 7)", "close(0)", "release(0) = true")
                .due("count(2) = 0", "count(3) = 0", "look(0, 0) = throws.NoSuchElementException")
                .due("send(0, 1) = throws.IllegalArgumentException", "receive(0) = throws.IllegalArgumentException")
                .due("close(0) = throws.IllegalArgumentException", "alarm(0, 1) = throws.IllegalArgumentException")
                .due("offer(0, true, 1) = throws.IllegalArgumentException", "channel(2) = 0", "look(0, 0) = 0")
                .due("look(0, 1) = 2", "look(0, 4) = 0", "send(0, 8) = true", "send(0, 9) = true", "receive(0)")
                .due("outcome(0) = 8", "receive(0)", "outcome(0) = 9");
    }

    private static void promise7WhenNobodyIsCurrent() {
        Run.over("(also when nobody is current, as for release() and gate())").due("release(0) = true")
                .due("release(0) = false", "count(2) = 0", "count(3) = 0", "channel(1) = 0");
        Run.blocked("(also when nobody is current, as for release() and gate())").due("release(0) = true")
                .due("release(0) = false", "count(2) = 0", "channel(1) = 0", "current() = -1", "count(7) = 2");
    }

    // ---- promise 8

    private static void promise8Sends() {
        String sentence = "when the clock is so much later (0: when it is looked at next, as said), "
                + "what the clock is then is sent to the channel";
        new Run(sentence).due("sleep(100) = 0", "channel(2) = 0", "alarm(0, 7)", "alarm(0, 3)", "count(5) = 2")
                .due("sleep(2) = 0", "look(0, 0) = 0", "sleep(1) = 0", "look(0, 0) = 1", "count(5) = 1", "sleep(9) = 0")
                .due("receive(0) = true", "outcome(0) = 103", "receive(0) = true", "outcome(0) = 107");
        new Run(sentence).due("channel(0) = 0", "alarm(0, 1000000000)", "receive(0) = false", "current() = 0")
                .outcome(0, 1000000000L, true, -1, false).due("clock() = 1000000000", "count(5) = 0");
        new Run(sentence).due("channel(1) = 0", "channel(1) = 1", "alarm(1, 2)", "offer(0, false, 0)")
                .due("offer(1, false, 0)", "choose(0, false) = false", "current() = 0").outcome(0, 2, true, 1, false)
                .due("look(0, 3) = 0", "look(1, 3) = 0", "look(1, 0) = 0");
    }

    private static void promise8IsLost() {
        String sentence = "unless that is closed or it would have to wait";
        new Run(sentence).due("channel(0) = 0", "alarm(0, 1)", "sleep(2) = 0", "count(5) = 0", "look(0, 0) = 0")
                .due("look(0, 2) = 0", "spawn() = 1", "giveWay() = 1", "receive(0) = false", "task(1, 0) = 3");
        new Run(sentence).due("channel(2) = 0", "send(0, 5)", "alarm(0, 1)", "alarm(0, 1)", "sleep(2) = 0")
                .due("look(0, 0) = 2", "look(0, 2) = 0", "count(5) = 0", "receive(0)", "outcome(0) = 5", "receive(0)")
                .due("outcome(0) = 1", "look(0, 0) = 0");
        new Run(sentence).due("channel(2) = 0", "alarm(0, 1)", "close(0)", "alarm(0, 1)", "sleep(2) = 0", "count(5) = 0")
                .due("look(0, 0) = 0", "receive(0) = true").outcome(0, 0, false, -1, false);
        new Run(sentence).due("spawn() = 1", "channel(1) = 0", "send(0, 1)", "send(0, 2) = false", "alarm(0, 1)")
                .due("sleep(2) = 1", "look(0, 0) = 1", "look(0, 2) = 1", "receive(0)", "outcome(1) = 1", "receive(0)")
                .due("outcome(1) = 2", "clock() = 2");
    }

    private static void promise8NoTime() {
        String sentence = "(0: when it is looked at next, as said)";
        new Run(sentence).due("channel(1) = 0", "spawn() = 1", "alarm(0, 0)", "giveWay() = 1", "look(0, 0) = 0")
                .due("receive(-1) = false", "current() = 0", "look(0, 0) = 0", "count(5) = 1", "giveWay() = 0")
                .due("count(5) = 1", "sleep(5) = 0", "look(0, 0) = 1", "receive(0)", "outcome(0) = 0", "clock() = 5");
        new Run(sentence).due("channel(0) = 0", "sleep(4) = 0", "alarm(0, 0)", "receive(0) = false", "current() = 0")
                .outcome(0, 4, true, -1, false).due("clock() = 4", "count(5) = 0");
    }

    private static void promise8WrongArguments() {
        Run run = new Run("IllegalArgumentException: no such channel (NOWHERE is none here), or time is not 0 .. 1000000000");
        run.due("alarm(0, 1) = throws.IllegalArgumentException", "channel(1) = 0", "channel(1) = 1");
        run.due("alarm(-1, 1) = throws.IllegalArgumentException");
        for (String channel : NO_CHANNELS) {
            run.due("alarm(" + channel + ", 1) = throws.IllegalArgumentException");
        }
        for (long time : new long[] {-1, 1000000001L, Long.MIN_VALUE, Long.MAX_VALUE}) {
            run.due("alarm(0, " + time + ") = throws.IllegalArgumentException");
        }
        run.due("count(5) = 0", "alarm(0, 0) = done", "alarm(1, 1000000000) = done", "count(5) = 2");
        run.due("close(1)", "alarm(1, 5) = done", "count(5) = 3");
    }

    private static void promise8AtMost256() {
        String sentence = "IllegalStateException: there is no current one, or 256 alarms are to ring.";
        Run run = new Run(sentence).due("channel(1) = 0", "channel(0) = 1");
        for (int i = 0; i < 256; i++) {
            run.due("alarm(" + i % 2 + ", " + (i + 1) + ") = done");
        }
        run.due("count(5) = 256", "alarm(0, 1) = throws.IllegalStateException", "count(5) = 256");
        run.due("alarm(0, -1) = throws.IllegalArgumentException", "alarm(2, 1) = throws.IllegalArgumentException");
        run.due("sleep(3) = 0", "count(5) = 253", "alarm(1, 0) = done", "alarm(1, 0) = done", "alarm(1, 0) = done");
        run.due("alarm(1, 0) = throws.IllegalStateException", "count(5) = 256", "sleep(1) = 0", "count(5) = 252");
        run.due("alarm(0, 0) = done", "receive(0)", "outcome(0) = 1");
    }

    private static void promise8NoCurrent() {
        String sentence = "IllegalStateException: there is no current one, or 256 alarms are to ring.";
        Run[] runs = {Run.over(sentence), Run.blocked(sentence)};
        for (Run run : runs) {
            run.due("alarm(0, 1) = throws.IllegalStateException", "alarm(0, 0) = throws.IllegalStateException");
            run.due("alarm(1, 1) = throws.IllegalArgumentException", "alarm(0, -1) = throws.IllegalArgumentException");
            run.due("count(5) = 0");
        }
    }

    // ---- promises 9 to 11 and 22

    private static void promise9AtOnce() {
        String sentence = "It sends: true when it goes on at once.";
        new Run(sentence).withTasks(1).due("channel(1) = 0", "send(0, 1) = true", "current() = 0", "send(0, 2) = false")
                .due("current() = 1", "receive(0) = true").row(0);
        new Run(sentence).due("channel(0) = 0", "spawn() = 1", "receive(0) = false", "send(0, 1) = true", "current() = 1");
        new Run(sentence).due("channel(0) = 0", "send(0, 1) = false", "count(7) = 2");
    }

    private static void promise9() {
        String sentence = "IllegalArgumentException: there is no such channel (NOWHERE is one); "
                + "IllegalStateException: there is no current one; UnsupportedOperationException: it is broken";
        Run run = new Run(sentence).withTasks(1).due("channel(1) = 0", "channel(1) = 1");
        for (String channel : NO_CHANNELS) {
            run.due("send(" + channel + ", 1) = throws.IllegalArgumentException");
        }
        run.due("close(0)", "send(0, 1) = throws.UnsupportedOperationException", "current() = 0").row(1);
        run.due("send(1, 1) = true", "send(-1, 1) = false", "current() = 1", "task(0, 0) = 7");
        Run[] runs = {Run.over(sentence), Run.blocked(sentence)};
        for (Run none : runs) {
            none.due("send(0, 1) = throws.IllegalStateException", "send(-1, 1) = throws.IllegalStateException");
            none.due("send(1, 1) = throws.IllegalArgumentException", "look(0, 0) = 1");
        }
    }

    private static void promise10() {
        String sentence = "It receives: true when it goes on at once. Exceptions as for send (none for what is closed).";
        Run run = new Run(sentence).withTasks(1).due("channel(1) = 0", "channel(1) = 1");
        for (String channel : NO_CHANNELS) {
            run.due("receive(" + channel + ") = throws.IllegalArgumentException");
        }
        run.due("close(0)", "receive(0) = true", "receive(-1) = false", "current() = 1", "task(0, 0) = 7");
        Run[] runs = {Run.over(sentence), Run.blocked(sentence)};
        for (Run none : runs) {
            none.due("receive(0) = throws.IllegalStateException", "receive(-1) = throws.IllegalStateException");
            none.due("receive(1) = throws.IllegalArgumentException", "look(0, 0) = 1");
        }
    }

    private static void promise11() {
        String sentence = "IllegalArgumentException: there is no such channel; IllegalStateException: there is no current "
                + "one; UnsupportedOperationException: it is closed, or NOWHERE.";
        Run run = new Run(sentence).withTasks(1).due("channel(1) = 0", "channel(1) = 1");
        for (String channel : NO_CHANNELS) {
            run.due("close(" + channel + ") = throws.IllegalArgumentException");
        }
        run.due("close(-1) = throws.UnsupportedOperationException", "send(0, 5)", "close(0)", "look(0, 4) = 1");
        run.due("close(0) = throws.UnsupportedOperationException", "look(0, 4) = 1", "look(0, 0) = 1");
        run.due("look(1, 4) = 0", "release(0) = true", "close(0) = throws.IllegalArgumentException");
        run.due("channel(0) = 0", "close(0) = done");
        Run[] runs = {Run.over(sentence), Run.blocked(sentence)};
        for (Run none : runs) {
            none.due("close(0) = throws.IllegalStateException", "close(-1) = throws.IllegalStateException");
            none.due("close(1) = throws.IllegalArgumentException", "look(0, 4) = 0");
        }
        new Run(sentence).due("channel(0) = 0", "close(0)", "finish()", "close(0) = throws.IllegalStateException");
    }

    private static void promise22() {
        Run run = new Run("Of a channel: 0 how many values are there, 1 its room, 2 how many wait to send, 3 to receive "
                + "(in choices, too, once for each case), 4 whether it is closed (1 or 0).");
        run.withTasks(3).due("channel(2) = 0", "channel(8000) = 1", "look(1, 0) = 0", "look(1, 1) = 8000");
        run.due("send(0, 5)", "send(0, 6)", "send(0, 7) = false", "send(0, 8) = false", "receive(1) = false");
        int[] full = {2, 2, 2, 0, 0};
        int[] empty = {0, 8000, 0, 1, 0};
        for (int what = 0; what < 5; what++) {
            run.due("look(0, " + what + ") = " + full[what], "look(1, " + what + ") = " + empty[what]);
        }
        run.due("close(0)", "close(1)", "look(0, 4) = 1", "look(1, 4) = 1", "look(0, 2) = 0", "look(1, 3) = 0");
        run.due("look(0, 0) = 2", "look(0, 1) = 2");
    }

    private static void promise22InChoices() {
        new Run("(in choices, too, once for each case)").withTasks(2).due("channel(0) = 0", "channel(0) = 1")
                .due("offer(0, true, 1)", "offer(0, true, 2)", "offer(0, true, 3)", "offer(1, false, 0)")
                .due("offer(1, false, 0)", "look(0, 2) = 0", "choose(0, false) = false", "look(0, 2) = 3")
                .due("look(0, 3) = 0", "look(1, 3) = 2", "look(1, 2) = 0", "receive(1) = false", "look(1, 3) = 3")
                .due("receive(0) = true", "look(0, 2) = 0", "look(1, 3) = 1");
    }

    private static void promise22Wrong() {
        Run run = new Run("NoSuchElementException: there is no such channel or what.");
        run.due("look(0, 0) = throws.NoSuchElementException", "channel(1) = 0", "channel(1) = 1");
        for (String channel : NO_CHANNELS) {
            run.due("look(" + channel + ", 0) = throws.NoSuchElementException");
            run.due("look(" + channel + ", 4) = throws.NoSuchElementException");
        }
        for (int what = 0; what < 5; what++) {
            run.due("look(-1, " + what + ") = throws.NoSuchElementException");
        }
        for (String what : new String[] {"-1", "5", "6", LEAST, GREATEST}) {
            run.due("look(0, " + what + ") = throws.NoSuchElementException");
        }
        run.due("release(1) = true", "look(1, 1) = throws.NoSuchElementException", "look(0, 1) = 1");
    }
}
