/** Promises 6 to 11 and 22: channels, alarms, sending, receiving and closing. */
public final class ChannelsTest {
    private static final int[] NO_CHANNELS = {-2, 1, 511, 512, Integer.MAX_VALUE, Integer.MIN_VALUE};

    public static void main(String[] args) {
        promise6Channel();
        promise6TooMuch();
        promise6WhenNobodyIsCurrent();
        promise7Release();
        promise7NotReleased();
        promise7NewAfterReleased();
        promise8Alarm();
        promise8AlarmIsLost();
        promise8AlarmOfNoTime();
        promise8AlarmInAChoice();
        promise8Wrong();
        promise9SendThroughRoom();
        promise9SendToWhoWaits();
        promise9SendWaits();
        promise9Nowhere();
        promise9Wrong();
        promise10ReceiveValues();
        promise10ReceiveWithoutRoom();
        promise10ReceiveFromClosed();
        promise10Wrong();
        promise11CloseWakesReceivers();
        promise11CloseBreaksSenders();
        promise11Wrong();
        promise22Look();
        Check.end();
    }

    private static void promise6Channel() {
        TaskDesk x = new TaskDesk();
        Check.due("channel(0)", 0, x.channel(0));
        Check.due("channel(8192)", 1, x.channel(8192));
        Check.due("channel(0) when no room is left", 2, x.channel(0));
        Check.due("look(1, 1)", 8192, x.look(1, 1));
        Check.due("count(3)", 8192, x.count(3));
        Check.due("release(0)", true, x.release(0));
        Check.due("channel(0) takes the least free number", 0, x.channel(0));
        Check.due("channel(0)", 3, x.channel(0));
    }

    private static void promise6TooMuch() {
        TaskDesk x = new TaskDesk();
        Check.argument("channel(-1)", () -> x.channel(-1));
        Check.argument("channel(8193)", () -> x.channel(8193));
        Check.argument("channel(greatest)", () -> x.channel(Integer.MAX_VALUE));
        Check.argument("channel(least)", () -> x.channel(Integer.MIN_VALUE));
        x.channel(8000);
        Check.state("channel(193)", () -> x.channel(193));
        Check.due("channel(192)", 1, x.channel(192));
        Check.state("channel(1)", () -> x.channel(1));
        Check.due("count(2)", 2, x.count(2));
        x.release(0);
        Check.due("channel(8000) after release", 0, x.channel(8000));
    }

    private static void promise6WhenNobodyIsCurrent() {
        TaskDesk x = new TaskDesk();
        x.finish();
        Check.due("channel(2)", 0, x.channel(2));
        Check.due("count(2)", 1, x.count(2));
        Check.due("release(0)", true, x.release(0));
        Check.due("count(2)", 0, x.count(2));
    }

    private static void promise7Release() {
        TaskDesk x = new TaskDesk();
        x.channel(4);
        x.send(0, 9);
        x.send(0, 9);
        x.close(0);
        Check.due("release(0) with values, closed", true, x.release(0));
        Check.due("release(0) again", false, x.release(0));
        Check.due("count(2)", 0, x.count(2));
        Check.due("count(3)", 0, x.count(3));
        Check.noElement("look(0, 0)", () -> x.look(0, 0));
        Check.argument("send(0, 1)", () -> x.send(0, 1));
        for (int number : NO_CHANNELS) {
            Check.due("release(" + number + ")", false, x.release(number));
        }
        Check.due("release(-1)", false, x.release(-1));
    }

    private static void promise7NotReleased() {
        TaskDesk x = new TaskDesk();
        for (int i = 0; i < 5; i++) {
            x.channel(0);
        }
        x.spawn();
        x.spawn();
        x.spawn();
        x.send(0, 1);
        x.receive(1);
        x.offer(2, false, 0);
        x.offer(2, true, 0);
        x.choose(0, false);
        x.alarm(3, 5);
        x.offer(4, false, 0);
        Check.due("channel(0) that nobody uses", 5, x.channel(0));
        Check.due("release(5) while others are used", true, x.release(5));
        for (int channel = 0; channel < 5; channel++) {
            Check.due("release(" + channel + ")", false, x.release(channel));
        }
        Check.due("count(2)", 5, x.count(2));
        x.receive(0);
        x.send(1, 1);
        x.send(2, 1);
        x.choose(0, true);
        for (int channel = 0; channel < 5; channel++) {
            Check.due("release(" + channel + ")", channel != 3, x.release(channel));
        }
        x.sleep(6);
        x.receive(-1);
        x.receive(-1);
        x.receive(-1);
        Check.due("release(3) after the alarm", true, x.release(3));
        Check.due("count(2)", 0, x.count(2));
    }

    private static void promise7NewAfterReleased() {
        TaskDesk x = new TaskDesk();
        x.channel(2);
        x.send(0, 5);
        x.close(0);
        x.release(0);
        Check.due("channel(1)", 0, x.channel(1));
        Check.due("look(0, 0)", 0, x.look(0, 0));
        Check.due("look(0, 1)", 1, x.look(0, 1));
        Check.due("look(0, 4)", 0, x.look(0, 4));
        Check.due("send(0, 6)", true, x.send(0, 6));
        x.receive(0);
        Check.due("outcome(0)", 6, x.outcome(0));
    }

    private static void promise8Alarm() {
        TaskDesk x = new TaskDesk();
        x.channel(2);
        x.alarm(0, 20);
        x.alarm(0, 10);
        x.alarm(0, 1000000000L);
        Check.due("count(5)", 3, x.count(5));
        x.receive(0);
        Check.due("clock()", 10, x.clock());
        Check.outcome(x, 0, 10, true, -1, false);
        x.sleep(15);
        Check.due("look(0, 0)", 1, x.look(0, 0));
        Check.due("count(5)", 1, x.count(5));
        x.receive(0);
        Check.due("outcome(0)", 20, x.outcome(0));
        x.receive(0);
        Check.due("outcome(0)", 1000000000L, x.outcome(0));
    }

    private static void promise8AlarmIsLost() {
        TaskDesk x = new TaskDesk();
        x.channel(0);
        x.channel(1);
        x.channel(1);
        x.close(2);
        x.send(1, 77);
        x.alarm(0, 1);
        x.alarm(1, 2);
        x.alarm(2, 3);
        x.sleep(4);
        Check.due("count(5)", 0, x.count(5));
        Check.due("look(0, 0) without room", 0, x.look(0, 0));
        Check.due("look(0, 2)", 0, x.look(0, 2));
        Check.due("look(1, 0) when full", 1, x.look(1, 0));
        Check.due("look(2, 0) when closed", 0, x.look(2, 0));
        x.receive(1);
        Check.due("outcome(0)", 77, x.outcome(0));
        Check.outcome(x, 0, 77, true, -1, false);
    }

    private static void promise8AlarmOfNoTime() {
        TaskDesk x = new TaskDesk();
        x.channel(1);
        x.spawn();
        x.alarm(0, 0);
        x.giveWay();
        Check.due("count(5) while the clock is not looked at", 1, x.count(5));
        Check.due("receive(0)", false, x.receive(0));
        Check.due("current()", 0, x.current());
        Check.due("count(5)", 1, x.count(5));
        Check.due("sleep(3) lets the clock be looked at", 1, x.sleep(3));
        Check.due("clock()", 0, x.clock());
        Check.outcome(x, 1, 0, true, -1, false);
        Check.due("count(5)", 0, x.count(5));
    }

    private static void promise8AlarmInAChoice() {
        TaskDesk x = new TaskDesk();
        x.channel(0);
        x.channel(0);
        x.alarm(1, 6);
        x.offer(0, false, 0);
        x.offer(1, false, 0);
        x.choose(0, false);
        Check.due("current()", 0, x.current());
        Check.outcome(x, 0, 6, true, 1, false);
        Check.due("look(0, 3)", 0, x.look(0, 3));
    }

    private static void promise8Wrong() {
        TaskDesk x = new TaskDesk();
        x.channel(1);
        Check.argument("alarm(-1, 1)", () -> x.alarm(-1, 1));
        for (int number : NO_CHANNELS) {
            Check.argument("alarm(" + number + ", 1)", () -> x.alarm(number, 1));
        }
        Check.argument("alarm(0, -1)", () -> x.alarm(0, -1));
        Check.argument("alarm(0, 1000000001)", () -> x.alarm(0, 1000000001L));
        Check.argument("alarm(0, greatest)", () -> x.alarm(0, Long.MAX_VALUE));
        for (int i = 0; i < 256; i++) {
            x.alarm(0, 1000000000L - i);
        }
        Check.state("alarm(0, 1) as the 257th", () -> x.alarm(0, 1));
        Check.due("count(5)", 256, x.count(5));
        x.receive(0);
        Check.due("clock()", 999999745L, x.clock());
        x.alarm(0, 1);
        Check.due("count(5)", 256, x.count(5));
        x.finish();
        Check.state("alarm(0, 1) when all is over", () -> x.alarm(0, 1));
        Check.argument("alarm(0, -1) when all is over", () -> x.alarm(0, -1));
        TaskDesk y = new TaskDesk();
        y.channel(1);
        y.finish();
        Check.state("alarm(0, 1) when all is over", () -> y.alarm(0, 1));
        Check.due("count(5)", 0, y.count(5));
    }

    private static void promise9SendThroughRoom() {
        TaskDesk x = new TaskDesk();
        x.channel(2);
        x.spawn();
        Check.due("send(0, 1)", true, x.send(0, 1));
        Check.outcome(x, 0, 0, true, -1, false);
        Check.due("send(0, 2)", true, x.send(0, 2));
        Check.due("current()", 0, x.current());
        Check.due("look(0, 0)", 2, x.look(0, 0));
        Check.due("send(0, 3) when full", false, x.send(0, 3));
        Check.due("current()", 1, x.current());
        Check.due("look(0, 0)", 2, x.look(0, 0));
        Check.due("look(0, 2)", 1, x.look(0, 2));
    }

    private static void promise9SendToWhoWaits() {
        TaskDesk x = new TaskDesk();
        x.channel(3);
        x.spawn();
        x.spawn();
        x.receive(0);
        x.receive(0);
        Check.due("send(0, 8)", true, x.send(0, 8));
        Check.due("look(0, 0)", 0, x.look(0, 0));
        Check.due("task(0, 0)", 1, x.task(0, 0));
        Check.outcome(x, 0, 8, true, -1, false);
        Check.due("task(1, 0)", 3, x.task(1, 0));
        Check.due("send(0, 9)", true, x.send(0, 9));
        Check.outcome(x, 1, 9, true, -1, false);
        Check.due("task(1, 5)", 1, x.task(1, 5));
    }

    private static void promise9SendWaits() {
        TaskDesk x = new TaskDesk();
        x.channel(0);
        x.spawn();
        x.spawn();
        Check.due("send(0, 5)", false, x.send(0, 5));
        Check.due("task(0, 0)", 2, x.task(0, 0));
        Check.due("task(0, 1)", 0, x.task(0, 1));
        Check.due("send(0, 6)", false, x.send(0, 6));
        Check.due("look(0, 2)", 2, x.look(0, 2));
        x.receive(0);
        Check.due("outcome(2)", 5, x.outcome(2));
        Check.outcome(x, 0, 0, true, -1, false);
        Check.due("task(0, 5)", 0, x.task(0, 5));
        x.receive(0);
        Check.due("outcome(2)", 6, x.outcome(2));
        Check.due("task(1, 5)", 1, x.task(1, 5));
    }

    private static void promise9Nowhere() {
        TaskDesk x = new TaskDesk();
        x.spawn();
        x.spawn();
        Check.due("send(-1, 5)", false, x.send(-1, 5));
        Check.due("receive(-1)", false, x.receive(-1));
        Check.due("current()", 2, x.current());
        Check.due("task(0, 0)", 7, x.task(0, 0));
        Check.due("task(1, 0)", 7, x.task(1, 0));
        Check.due("send(-1, 6)", false, x.send(-1, 6));
        Check.due("count(7)", 2, x.count(7));
        Check.due("task(2, 0)", 7, x.task(2, 0));
    }

    private static void promise9Wrong() {
        TaskDesk x = new TaskDesk();
        x.channel(1);
        for (int number : NO_CHANNELS) {
            Check.argument("send(" + number + ", 1)", () -> x.send(number, 1));
        }
        x.send(0, 4);
        x.close(0);
        x.receive(0);
        Check.unsupported("send(0, 1) to a closed one", () -> x.send(0, 1));
        Check.outcome(x, 0, 4, true, -1, false);
        Check.due("current()", 0, x.current());
        x.finish();
        Check.state("send(0, 1) when all is over", () -> x.send(0, 1));
        Check.state("send(-1, 1) when all is over", () -> x.send(-1, 1));
        Check.argument("send(1, 1) when all is over", () -> x.send(1, 1));
    }

    private static void promise10ReceiveValues() {
        TaskDesk x = new TaskDesk();
        x.channel(2);
        x.spawn();
        x.spawn();
        x.spawn();
        x.send(0, 1);
        x.send(0, 2);
        x.send(0, 3);
        x.send(0, 4);
        Check.due("receive(0)", true, x.receive(0));
        Check.outcome(x, 2, 1, true, -1, false);
        Check.due("look(0, 0)", 2, x.look(0, 0));
        Check.due("look(0, 2)", 1, x.look(0, 2));
        Check.due("task(0, 5)", 1, x.task(0, 5));
        Check.outcome(x, 0, 0, true, -1, false);
        for (int want = 2; want <= 4; want++) {
            Check.due("receive(0)", true, x.receive(0));
            Check.due("outcome(2)", want, x.outcome(2));
        }
        Check.due("look(0, 0)", 0, x.look(0, 0));
        Check.due("receive(0) when empty", false, x.receive(0));
        Check.due("task(2, 0)", 3, x.task(2, 0));
        Check.due("task(2, 1)", 0, x.task(2, 1));
        Check.due("look(0, 3)", 1, x.look(0, 3));
        Check.due("outcome(2) as before", 4, x.outcome(2));
    }

    private static void promise10ReceiveWithoutRoom() {
        TaskDesk x = new TaskDesk();
        x.channel(0);
        x.spawn();
        x.send(0, 15);
        Check.due("receive(0)", true, x.receive(0));
        Check.outcome(x, 1, 15, true, -1, false);
        Check.outcome(x, 0, 0, true, -1, false);
        Check.due("task(0, 0)", 1, x.task(0, 0));
        Check.due("look(0, 2)", 0, x.look(0, 2));
    }

    private static void promise10ReceiveFromClosed() {
        TaskDesk x = new TaskDesk();
        x.channel(3);
        x.send(0, 5);
        x.send(0, 6);
        x.close(0);
        Check.due("receive(0)", true, x.receive(0));
        Check.outcome(x, 0, 5, true, -1, false);
        Check.due("receive(0)", true, x.receive(0));
        Check.outcome(x, 0, 6, true, -1, false);
        Check.due("receive(0) when empty and closed", true, x.receive(0));
        Check.outcome(x, 0, 0, false, -1, false);
        Check.due("current()", 0, x.current());
    }

    private static void promise10Wrong() {
        TaskDesk x = new TaskDesk();
        x.channel(1);
        for (int number : NO_CHANNELS) {
            Check.argument("receive(" + number + ")", () -> x.receive(number));
        }
        x.finish();
        Check.state("receive(0) when all is over", () -> x.receive(0));
        Check.state("receive(-1) when all is over", () -> x.receive(-1));
        Check.argument("receive(1) when all is over", () -> x.receive(1));
    }

    private static void promise11CloseWakesReceivers() {
        TaskDesk x = new TaskDesk();
        x.channel(0);
        x.channel(0);
        x.spawn();
        x.spawn();
        x.spawn();
        x.receive(0);
        x.offer(-1, true, 0);
        x.offer(1, false, 0);
        x.offer(0, false, 0);
        x.offer(0, false, 0);
        x.choose(0, false);
        x.receive(0);
        Check.due("look(0, 3)", 4, x.look(0, 3));
        x.close(0);
        Check.due("look(0, 4)", 1, x.look(0, 4));
        Check.due("look(0, 3)", 0, x.look(0, 3));
        Check.due("look(1, 3)", 0, x.look(1, 3));
        Check.due("current()", 3, x.current());
        for (int task = 0; task < 3; task++) {
            Check.due("task(" + task + ", 5)", task, x.task(task, 5));
            Check.outcome(x, task, 0, false, task == 1 ? 2 : -1, false);
        }
        Check.due("count(1)", 3, x.count(1));
    }

    private static void promise11CloseBreaksSenders() {
        TaskDesk x = new TaskDesk();
        x.channel(1);
        x.spawn();
        x.spawn();
        x.send(0, 40);
        x.send(0, 41);
        x.offer(-1, false, 0);
        x.offer(0, true, 42);
        x.choose(0, false);
        x.close(0);
        Check.outcome(x, 0, 0, false, -1, true);
        Check.outcome(x, 1, 0, false, 1, true);
        Check.due("task(0, 5)", 0, x.task(0, 5));
        Check.due("task(1, 5)", 1, x.task(1, 5));
        Check.due("look(0, 2)", 0, x.look(0, 2));
        Check.due("look(0, 0): the values stay", 1, x.look(0, 0));
        x.giveWay();
        x.receive(0);
        Check.outcome(x, 0, 40, true, -1, false);
        x.receive(0);
        Check.outcome(x, 0, 0, false, -1, false);
    }

    private static void promise11Wrong() {
        TaskDesk x = new TaskDesk();
        x.channel(1);
        for (int number : NO_CHANNELS) {
            Check.argument("close(" + number + ")", () -> x.close(number));
        }
        Check.unsupported("close(-1)", () -> x.close(-1));
        x.close(0);
        Check.unsupported("close(0) again", () -> x.close(0));
        Check.due("look(0, 4)", 1, x.look(0, 4));
        x.finish();
        Check.state("close(0) when all is over", () -> x.close(0));
        Check.state("close(-1) when all is over", () -> x.close(-1));
        Check.argument("close(1) when all is over", () -> x.close(1));
    }

    private static void promise22Look() {
        TaskDesk x = new TaskDesk();
        x.channel(1);
        x.spawn();
        x.spawn();
        x.send(0, 1);
        x.send(0, 2);
        x.offer(0, true, 3);
        x.offer(0, true, 4);
        x.choose(0, false);
        int[] full = {1, 1, 3, 0, 0};
        for (int what = 0; what < full.length; what++) {
            Check.due("look(0, " + what + ")", full[what], x.look(0, what));
        }
        x.channel(0);
        x.spawn();
        x.offer(1, false, 0);
        x.offer(1, false, 0);
        x.offer(1, true, 0);
        x.choose(0, false);
        Check.due("look(1, 3)", 2, x.look(1, 3));
        Check.due("look(1, 2)", 1, x.look(1, 2));
        int[] whats = {-1, 5, Integer.MAX_VALUE, Integer.MIN_VALUE};
        for (int what : whats) {
            Check.noElement("look(0, " + what + ")", () -> x.look(0, what));
        }
        Check.noElement("look(-1, 0)", () -> x.look(-1, 0));
        Check.noElement("look(2, 0)", () -> x.look(2, 0));
        Check.noElement("look(512, 0)", () -> x.look(512, 0));
        Check.noElement("look(least, 0)", () -> x.look(Integer.MIN_VALUE, 0));
    }
}
