/** Promises 1 to 5, 19 to 21, 24 and 25: tasks, turns, the clock, and what is told of them. */
public final class TasksTest {
    public static void main(String[] args) {
        promise1NewObject();
        promise2Spawn();
        promise3GiveWay();
        promise3AloneTheClockStays();
        promise4Finish();
        promise4MainIsOver();
        promise4MainIsOverForAllThatWait();
        promise4Blocked();
        promise5Sleep();
        promise5SleepersOfOneTime();
        promise5SleepOfNoTime();
        promise5WrongTimes();
        promise19Current();
        promise20States();
        promise20PlaceInTheRow();
        promise20WrongQuestions();
        promise21Outcome();
        promise24Clock();
        promise25Count();
        Check.end();
    }

    private static void promise1NewObject() {
        TaskDesk x = new TaskDesk();
        Check.due("current()", 0, x.current());
        Check.due("task(0, 0)", 0, x.task(0, 0));
        Check.due("task(0, 1)", -1, x.task(0, 1));
        Check.outcome(x, 0, 0, false, -1, false);
        Check.due("task(0, 5)", -1, x.task(0, 5));
        Check.due("clock()", 0, x.clock());
        int[] counts = {1, 0, 0, 0, 0, 0, 0, 0};
        for (int what = 0; what < counts.length; what++) {
            Check.due("count(" + what + ")", counts[what], x.count(what));
        }
        Check.noElement("look(0, 0) of a new object", () -> x.look(0, 0));
        Check.noElement("watch(0, 0) of a new object", () -> x.watch(0, 0));
    }

    private static void promise2Spawn() {
        TaskDesk x = new TaskDesk();
        Check.due("spawn()", 1, x.spawn());
        Check.due("spawn()", 2, x.spawn());
        Check.due("spawn()", 3, x.spawn());
        Check.due("current()", 0, x.current());
        Check.due("task(1, 0)", 1, x.task(1, 0));
        Check.due("task(3, 5)", 2, x.task(3, 5));
        x.giveWay();
        Check.due("finish() of 1", 2, x.finish());
        x.receive(TaskDesk.NONE);
        Check.due("spawn() takes the least free number", 1, x.spawn());
        Check.due("spawn()", 4, x.spawn());
        TaskDesk y = new TaskDesk();
        y.finish();
        Check.state("spawn() when all is over", y::spawn);
        Check.due("count(0)", 0, y.count(0));
    }

    private static void promise3GiveWay() {
        TaskDesk x = new TaskDesk();
        x.spawn();
        x.spawn();
        Check.due("giveWay()", 1, x.giveWay());
        Check.due("task(0, 5)", 1, x.task(0, 5));
        Check.due("task(0, 0)", 1, x.task(0, 0));
        Check.due("giveWay()", 2, x.giveWay());
        Check.due("giveWay()", 0, x.giveWay());
        Check.due("task(0, 0)", 0, x.task(0, 0));
        Check.due("count(1)", 2, x.count(1));
        x.finish();
        Check.state("giveWay() when all is over", x::giveWay);
    }

    private static void promise3AloneTheClockStays() {
        TaskDesk x = new TaskDesk();
        x.channel(1);
        x.alarm(0, 0);
        x.spawn();
        x.giveWay();
        x.sleep(5);
        Check.due("giveWay() alone", 0, x.giveWay());
        Check.due("clock()", 0, x.clock());
        Check.due("count(5)", 1, x.count(5));
        Check.due("look(0, 0)", 0, x.look(0, 0));
    }

    private static void promise4Finish() {
        TaskDesk x = new TaskDesk();
        x.channel(2);
        x.spawn();
        x.spawn();
        x.giveWay();
        x.send(0, 5);
        Check.outcome(x, 1, 0, true, -1, false);
        Check.due("finish()", 2, x.finish());
        Check.noElement("task(1, 0) of one that is over", () -> x.task(1, 0));
        Check.noElement("outcome(1) of one that is over", () -> x.outcome(1));
        Check.due("count(0)", 2, x.count(0));
        Check.due("spawn()", 1, x.spawn());
        Check.outcome(x, 1, 0, false, -1, false);
        Check.due("count(7)", 0, x.count(7));
    }

    private static void promise4MainIsOver() {
        TaskDesk x = new TaskDesk();
        x.channel(3);
        x.gate(0, 0);
        x.enter(0);
        x.send(0, 7);
        x.spawn();
        x.alarm(0, 4);
        x.offer(0, true, 1);
        Check.due("finish() of main", -1, x.finish());
        Check.due("current()", -1, x.current());
        int[] counts = {0, 0, 1, 3, 1, 1, 1, 1};
        for (int what = 0; what < counts.length; what++) {
            Check.due("count(" + what + ")", counts[what], x.count(what));
        }
        Check.due("look(0, 0)", 1, x.look(0, 0));
        Check.due("watch(0, 1)", 1, x.watch(0, 1));
        Check.due("clock()", 0, x.clock());
        Check.noElement("task(0, 0)", () -> x.task(0, 0));
        Check.noElement("task(1, 0)", () -> x.task(1, 0));
        Check.state("finish() again", x::finish);
    }

    private static void promise4MainIsOverForAllThatWait() {
        TaskDesk x = new TaskDesk();
        x.channel(0);
        x.channel(0);
        x.gate(0, 0);
        x.enter(0);
        for (int i = 0; i < 4; i++) {
            x.spawn();
        }
        x.giveWay();
        x.send(0, 1);
        x.offer(0, true, 1);
        x.offer(1, false, 1);
        x.choose(0, false);
        x.enter(0);
        x.sleep(9);
        Check.due("look(0, 2)", 2, x.look(0, 2));
        Check.due("finish() of main", -1, x.finish());
        Check.due("look(0, 2) when nobody is there", 0, x.look(0, 2));
        Check.due("look(1, 3) when nobody is there", 0, x.look(1, 3));
        Check.due("watch(0, 2) when nobody is there", 0, x.watch(0, 2));
        Check.due("release(0) when nobody is there", true, x.release(0));
        Check.due("count(5)", 0, x.count(5));
    }

    private static void promise4Blocked() {
        TaskDesk x = new TaskDesk();
        x.spawn();
        x.receive(TaskDesk.NONE);
        Check.due("finish() of the last that goes on", -1, x.finish());
        Check.due("count(7)", 2, x.count(7));
        Check.due("count(0)", 1, x.count(0));
        Check.due("task(0, 0)", 7, x.task(0, 0));
        Check.state("finish() when blocked", x::finish);
        Check.state("giveWay() when blocked", x::giveWay);
        Check.state("spawn() when blocked", x::spawn);
    }

    private static void promise5Sleep() {
        TaskDesk x = new TaskDesk();
        x.spawn();
        x.spawn();
        Check.due("sleep(30)", 1, x.sleep(30));
        Check.due("task(0, 0)", 5, x.task(0, 0));
        Check.due("task(0, 1)", -1, x.task(0, 1));
        Check.due("clock()", 0, x.clock());
        Check.due("sleep(10)", 2, x.sleep(10));
        Check.due("sleep(20)", 1, x.sleep(20));
        Check.due("clock()", 10, x.clock());
        Check.due("sleep(1000000000)", 2, x.sleep(1000000000L));
        Check.due("clock()", 20, x.clock());
        Check.due("finish()", 0, x.finish());
        Check.due("clock()", 30, x.clock());
        Check.due("sleep(1)", 0, x.sleep(1));
        Check.due("clock()", 31, x.clock());
        Check.outcome(x, 0, 0, false, -1, false);
    }

    private static void promise5SleepersOfOneTime() {
        TaskDesk x = new TaskDesk();
        x.channel(0);
        for (int i = 0; i < 4; i++) {
            x.spawn();
        }
        x.sleep(10);
        x.sleep(7);
        x.receive(0);
        x.alarm(0, 7);
        x.sleep(7);
        Check.due("sleep(7) of 4, clock at 7: 1 was the first", 1, x.sleep(7));
        Check.due("clock()", 7, x.clock());
        Check.due("task(2, 5) by the alarm", 0, x.task(2, 5));
        Check.due("task(3, 5)", 1, x.task(3, 5));
        Check.due("task(4, 5)", 2, x.task(4, 5));
        Check.due("outcome(2)", 7, x.outcome(2));
        Check.due("task(0, 0)", 5, x.task(0, 0));
    }

    private static void promise5SleepOfNoTime() {
        TaskDesk x = new TaskDesk();
        x.spawn();
        Check.due("sleep(0)", 1, x.sleep(0));
        Check.due("task(0, 0)", 1, x.task(0, 0));
        Check.due("sleep(-5)", 0, x.sleep(-5));
        x.giveWay();
        x.sleep(8);
        Check.due("sleep(0) alone", 0, x.sleep(0));
        Check.due("sleep(least) alone", 0, x.sleep(Long.MIN_VALUE));
        Check.due("clock()", 0, x.clock());
    }

    private static void promise5WrongTimes() {
        TaskDesk x = new TaskDesk();
        Check.argument("sleep(1000000001)", () -> x.sleep(1000000001L));
        Check.argument("sleep(greatest)", () -> x.sleep(Long.MAX_VALUE));
        Check.due("current()", 0, x.current());
        Check.due("clock()", 0, x.clock());
        x.finish();
        Check.state("sleep(1) when all is over", () -> x.sleep(1));
        Check.state("sleep(0) when all is over", () -> x.sleep(0));
        Check.argument("sleep(1000000001) when all is over", () -> x.sleep(1000000001L));
    }

    private static void promise19Current() {
        TaskDesk x = new TaskDesk();
        x.spawn();
        Check.due("current()", 0, x.current());
        x.receive(-1);
        Check.due("current()", 1, x.current());
        x.receive(-1);
        Check.due("current() when blocked", -1, x.current());
    }

    private static void promise20States() {
        TaskDesk x = new TaskDesk();
        x.channel(0);
        x.channel(0);
        x.gate(2, 0);
        x.gate(2, 0);
        x.change(1, 1);
        for (int i = 0; i < 10; i++) {
            x.spawn();
        }
        x.giveWay();
        x.send(1, 4);
        x.receive(0);
        x.offer(0, false, 0);
        x.offer(-1, true, 0);
        x.choose(0, false);
        x.sleep(3);
        x.enter(1);
        x.send(-1, 6);
        x.receive(-1);
        x.choose(0, false);
        x.offer(-1, true, 1);
        x.offer(-1, false, 1);
        x.choose(3, false);
        int[] states = {1, 2, 3, 4, 5, 6, 7, 7, 7, 7, 0};
        int[] places = {-1, 1, 0, -1, -1, 1, -1, -1, -1, -1, -1};
        for (int task = 0; task < states.length; task++) {
            Check.due("task(" + task + ", 0)", states[task], x.task(task, 0));
            Check.due("task(" + task + ", 1)", places[task], x.task(task, 1));
            Check.outcome(x, task, 0, false, -1, false);
        }
        x.send(0, 1);
        Check.due("task(2, 1) of who is ready again", -1, x.task(2, 1));
    }

    private static void promise20PlaceInTheRow() {
        TaskDesk x = new TaskDesk();
        x.spawn();
        x.spawn();
        x.spawn();
        Check.due("task(0, 5)", -1, x.task(0, 5));
        Check.due("task(1, 5)", 0, x.task(1, 5));
        Check.due("task(2, 5)", 1, x.task(2, 5));
        Check.due("task(3, 5)", 2, x.task(3, 5));
        x.sleep(2);
        Check.due("task(0, 5) asleep", -1, x.task(0, 5));
        Check.due("task(1, 5) current", -1, x.task(1, 5));
        Check.due("task(2, 5)", 0, x.task(2, 5));
    }

    private static void promise20WrongQuestions() {
        TaskDesk x = new TaskDesk();
        x.spawn();
        int[] numbers = {-1, 2, 255, 256, Integer.MAX_VALUE, Integer.MIN_VALUE};
        for (int number : numbers) {
            Check.noElement("task(" + number + ", 0)", () -> x.task(number, 0));
            Check.noElement("outcome(" + number + ")", () -> x.outcome(number));
        }
        int[] whats = {-1, 6, 7, Integer.MAX_VALUE, Integer.MIN_VALUE};
        for (int what : whats) {
            Check.noElement("task(0, " + what + ")", () -> x.task(0, what));
        }
    }

    private static void promise21Outcome() {
        TaskDesk x = new TaskDesk();
        x.channel(2);
        x.send(0, Long.MIN_VALUE);
        Check.due("outcome(0) of who sent", 0, x.outcome(0));
        x.receive(0);
        Check.outcome(x, 0, Long.MIN_VALUE, true, -1, false);
        x.spawn();
        x.giveWay();
        x.giveWay();
        x.sleep(0);
        x.giveWay();
        x.alarm(0, 3);
        Check.outcome(x, 0, Long.MIN_VALUE, true, -1, false);
        x.receive(0);
        Check.due("outcome(0) of who waits is the old one", Long.MIN_VALUE, x.outcome(0));
        x.send(0, 12);
        Check.due("outcome(0) of who woke", 12, x.outcome(0));
        Check.due("outcome(1)", 0, x.outcome(1));
    }

    private static void promise24Clock() {
        TaskDesk x = new TaskDesk();
        x.channel(0);
        x.alarm(0, 100);
        Check.due("clock()", 0, x.clock());
        x.sleep(1000000000L);
        x.sleep(1000000000L);
        x.sleep(1000000000L);
        Check.due("clock()", 3000000000L, x.clock());
        x.alarm(0, 5);
        x.finish();
        Check.due("clock() when all is over", 3000000000L, x.clock());
        TaskDesk y = new TaskDesk();
        y.channel(0);
        y.alarm(0, 5);
        y.alarm(0, 9);
        y.send(0, 1);
        Check.due("clock() when blocked, after the last alarm", 9, y.clock());
        Check.due("count(7)", 2, y.count(7));
        Check.due("count(5)", 0, y.count(5));
    }

    private static void promise25Count() {
        TaskDesk x = new TaskDesk();
        x.spawn();
        x.spawn();
        x.spawn();
        x.channel(5);
        x.channel(7);
        x.gate(0, 0);
        x.alarm(0, 5);
        x.alarm(0, 5);
        x.alarm(1, 5);
        x.offer(0, false, 0);
        x.offer(-1, false, 0);
        x.receive(-1);
        int[] counts = {4, 2, 2, 12, 1, 3, 2, 0};
        for (int what = 0; what < counts.length; what++) {
            Check.due("count(" + what + ")", counts[what], x.count(what));
        }
        int[] others = {-1, 8, 9, Integer.MAX_VALUE, Integer.MIN_VALUE};
        for (int what : others) {
            Check.due("count(" + what + ")", -1, x.count(what));
        }
        x.finish();
        x.finish();
        Check.due("finish() of 3", -1, x.finish());
        Check.due("count(0)", 1, x.count(0));
        Check.due("count(7)", 2, x.count(7));
        Check.due("count(6)", 2, x.count(6));
    }
}
