/** Promises 12 and 13: telling cases and choosing among them. */
public final class ChoicesTest {
    public static void main(String[] args) {
        promise12Offer();
        promise12ToldForWhoeverChooses();
        promise12Wrong();
        promise13ByTheNumber();
        promise13SendsAndReceives();
        promise13WayOut();
        promise13WaitsInAll();
        promise13WokenByReceiver();
        promise13SameChannelTwice();
        promise13BothWaysOnOneChannel();
        promise13AsIfEachWereAlone();
        promise13WaitsAgain();
        promise13WaitsForGood();
        promise13Closed();
        promise13Broken();
        promise13ClosedWhileWaiting();
        promise13Wrong();
        Check.end();
    }

    private static void promise12Offer() {
        TaskDesk x = new TaskDesk();
        x.channel(1);
        for (int i = 0; i < 16; i++) {
            Check.due("offer", i, x.offer(i % 2 - 1, i % 3 == 0, i));
            Check.due("count(6)", i + 1, x.count(6));
        }
        Check.state("offer as the 17th", () -> x.offer(0, true, 1));
        Check.due("count(6)", 16, x.count(6));
        x.choose(0, true);
        Check.due("count(6)", 0, x.count(6));
        Check.due("offer", 0, x.offer(0, true, 1));
    }

    private static void promise12ToldForWhoeverChooses() {
        TaskDesk x = new TaskDesk();
        x.channel(1);
        x.spawn();
        x.offer(0, true, 5);
        x.giveWay();
        Check.due("offer by another", 1, x.offer(0, false, 0));
        Check.due("choose(0, false)", true, x.choose(0, false));
        Check.outcome(x, 1, 0, true, 0, false);
        Check.outcome(x, 0, 0, false, -1, false);
        x.offer(0, false, 0);
        x.finish();
        Check.due("count(6) after finish()", 1, x.count(6));
        x.choose(7, false);
        Check.outcome(x, 0, 5, true, 0, false);
    }

    private static void promise12Wrong() {
        TaskDesk x = new TaskDesk();
        x.channel(1);
        int[] numbers = {-2, 1, 512, Integer.MAX_VALUE, Integer.MIN_VALUE};
        for (int number : numbers) {
            Check.argument("offer(" + number + ", ..)", () -> x.offer(number, true, 1));
        }
        Check.due("count(6)", 0, x.count(6));
        Check.due("offer(-1, ..)", 0, x.offer(-1, true, 1));
        x.finish();
        Check.state("offer when all is over", () -> x.offer(0, true, 1));
        Check.argument("offer(1, ..) when all is over", () -> x.offer(1, true, 1));
        Check.due("count(6)", 1, x.count(6));
    }

    private static void promise13ByTheNumber() {
        int[] numbers = {0, 1, 2, 3, 4, 5, Integer.MAX_VALUE};
        int[] cases = {1, 3, 4, 1, 3, 4, 3};
        for (int i = 0; i < numbers.length; i++) {
            TaskDesk x = new TaskDesk();
            x.channel(1);
            x.channel(1);
            x.send(1, 9);
            x.offer(0, false, 0);
            x.offer(0, true, 1);
            x.offer(-1, true, 1);
            x.offer(1, false, 0);
            x.offer(0, true, 2);
            x.offer(1, true, 3);
            Check.due("choose(" + numbers[i] + ", true)", true, x.choose(numbers[i], true));
            Check.due("task(0, 2)", cases[i], x.task(0, 2));
            Check.due("outcome(0)", cases[i] == 3 ? 9 : 0, x.outcome(0));
            Check.due("look(0, 0)", cases[i] == 3 ? 0 : 1, x.look(0, 0));
            Check.due("look(1, 0)", cases[i] == 3 ? 0 : 1, x.look(1, 0));
            Check.due("count(6)", 0, x.count(6));
        }
    }

    private static void promise13SendsAndReceives() {
        TaskDesk x = new TaskDesk();
        x.channel(0);
        x.channel(0);
        x.spawn();
        x.spawn();
        x.spawn();
        x.receive(0);
        x.send(1, 50);
        x.offer(1, false, 0);
        x.offer(0, true, 60);
        Check.due("choose(1, false)", true, x.choose(1, false));
        Check.outcome(x, 2, 0, true, 1, false);
        Check.outcome(x, 0, 60, true, -1, false);
        x.offer(0, true, 61);
        x.offer(1, false, 0);
        Check.due("choose(1, false)", true, x.choose(1, false));
        Check.outcome(x, 2, 50, true, 1, false);
        Check.outcome(x, 1, 0, true, -1, false);
        Check.due("task(0, 5)", 1, x.task(0, 5));
        Check.due("task(1, 5)", 2, x.task(1, 5));
    }

    private static void promise13WayOut() {
        TaskDesk x = new TaskDesk();
        x.channel(1);
        x.send(0, 3);
        x.receive(0);
        x.offer(0, false, 0);
        x.offer(-1, true, 0);
        Check.due("choose(3, true)", true, x.choose(3, true));
        Check.outcome(x, 0, 0, false, -1, false);
        Check.due("count(6)", 0, x.count(6));
        Check.due("look(0, 3)", 0, x.look(0, 3));
        x.send(0, 3);
        x.receive(0);
        Check.due("choose(0, true) without cases", true, x.choose(0, true));
        Check.outcome(x, 0, 0, false, -1, false);
        Check.due("current()", 0, x.current());
    }

    private static void promise13WaitsInAll() {
        TaskDesk x = new TaskDesk();
        x.channel(0);
        x.channel(1);
        x.channel(0);
        x.send(1, 70);
        x.spawn();
        x.offer(0, false, 0);
        x.offer(1, true, 71);
        x.offer(-1, false, 0);
        x.offer(2, false, 0);
        Check.due("choose(0, false)", false, x.choose(0, false));
        Check.due("current()", 1, x.current());
        Check.due("task(0, 0)", 4, x.task(0, 0));
        Check.due("task(0, 1)", -1, x.task(0, 1));
        Check.due("look(0, 3)", 1, x.look(0, 3));
        Check.due("look(1, 2)", 1, x.look(1, 2));
        Check.due("look(2, 3)", 1, x.look(2, 3));
        Check.due("count(6)", 0, x.count(6));
        Check.outcome(x, 0, 0, true, -1, false);
        x.send(2, 72);
        Check.outcome(x, 0, 72, true, 3, false);
        Check.due("look(0, 3)", 0, x.look(0, 3));
        Check.due("look(1, 2)", 0, x.look(1, 2));
        Check.due("look(2, 3)", 0, x.look(2, 3));
        Check.due("send(0, 1) finds nobody", false, x.send(0, 1));
    }

    private static void promise13WokenByReceiver() {
        TaskDesk x = new TaskDesk();
        x.channel(1);
        x.channel(0);
        x.send(0, 1);
        x.spawn();
        x.offer(1, true, 31);
        x.offer(0, true, 32);
        x.choose(0, false);
        Check.due("receive(0)", true, x.receive(0));
        Check.due("outcome(1)", 1, x.outcome(1));
        Check.due("look(0, 0): its value was put behind", 1, x.look(0, 0));
        Check.outcome(x, 0, 0, true, 1, false);
        Check.due("look(1, 2)", 0, x.look(1, 2));
        x.receive(0);
        Check.due("outcome(1)", 32, x.outcome(1));
        x.giveWay();
        x.offer(1, true, 33);
        x.choose(0, false);
        x.receive(1);
        Check.outcome(x, 1, 33, true, -1, false);
        Check.outcome(x, 0, 0, true, 0, false);
    }

    private static void promise13SameChannelTwice() {
        TaskDesk x = new TaskDesk();
        x.channel(0);
        x.spawn();
        x.offer(0, true, 11);
        x.offer(0, true, 12);
        x.choose(1, false);
        Check.due("look(0, 2)", 2, x.look(0, 2));
        x.receive(0);
        Check.due("outcome(1): the first case is the first in the row", 11, x.outcome(1));
        Check.outcome(x, 0, 0, true, 0, false);
        Check.due("look(0, 2)", 0, x.look(0, 2));
    }

    private static void promise13BothWaysOnOneChannel() {
        TaskDesk x = new TaskDesk();
        x.channel(0);
        x.spawn();
        x.spawn();
        x.offer(0, true, 11);
        x.offer(0, false, 12);
        Check.due("choose(0, false) does not meet itself", false, x.choose(0, false));
        Check.due("send(0, 5)", true, x.send(0, 5));
        Check.outcome(x, 0, 5, true, 1, false);
        Check.due("look(0, 2)", 0, x.look(0, 2));
        x.giveWay();
        x.offer(0, true, 21);
        x.offer(0, false, 22);
        Check.due("choose(0, false)", false, x.choose(0, false));
        Check.due("current()", 0, x.current());
        x.offer(0, false, 0);
        x.offer(0, true, 23);
        Check.due("choose(1, false)", true, x.choose(1, false));
        Check.outcome(x, 2, 23, true, 1, false);
        Check.outcome(x, 0, 0, true, 1, false);
    }

    private static void promise13AsIfEachWereAlone() {
        TaskDesk x = new TaskDesk();
        x.channel(0);
        x.channel(0);
        for (int i = 0; i < 4; i++) {
            x.spawn();
        }
        x.receive(0);
        x.offer(1, false, 0);
        x.offer(0, false, 0);
        x.choose(0, false);
        x.receive(0);
        x.receive(1);
        x.send(0, 100);
        x.send(0, 101);
        x.send(0, 102);
        x.send(1, 103);
        Check.outcome(x, 0, 100, true, -1, false);
        Check.outcome(x, 1, 101, true, 1, false);
        Check.outcome(x, 2, 102, true, -1, false);
        Check.outcome(x, 3, 103, true, -1, false);
    }

    private static void promise13WaitsAgain() {
        TaskDesk x = new TaskDesk();
        x.channel(0);
        x.channel(0);
        x.spawn();
        x.spawn();
        x.offer(0, false, 0);
        x.offer(1, false, 0);
        x.choose(0, false);
        x.send(1, 1);
        x.offer(0, false, 0);
        x.offer(1, true, 5);
        x.choose(0, false);
        x.giveWay();
        Check.due("current()", 0, x.current());
        x.receive(0);
        x.send(0, 2);
        Check.due("look(0, 3): 1 woke first and 0 still waits", 1, x.look(0, 3));
        Check.outcome(x, 1, 2, true, 0, false);
        Check.due("look(1, 2)", 0, x.look(1, 2));
        x.send(0, 3);
        Check.outcome(x, 0, 3, true, -1, false);
        x.offer(0, false, 0);
        x.offer(0, false, 0);
        x.choose(0, false);
        Check.due("current()", 1, x.current());
        x.receive(0);
        x.receive(1);
        Check.due("look(0, 3)", 3, x.look(0, 3));
        Check.due("look(1, 3)", 1, x.look(1, 3));
        Check.due("count(7)", 2, x.count(7));
    }

    private static void promise13WaitsForGood() {
        TaskDesk x = new TaskDesk();
        x.spawn();
        Check.due("choose(0, false) without cases", false, x.choose(0, false));
        Check.due("task(0, 0)", 7, x.task(0, 0));
        x.offer(-1, false, 0);
        x.offer(-1, true, 0);
        Check.due("choose(0, false) with NOWHERE alone", false, x.choose(0, false));
        Check.due("task(1, 0)", 7, x.task(1, 0));
        Check.due("count(7)", 2, x.count(7));
    }

    private static void promise13Closed() {
        TaskDesk x = new TaskDesk();
        x.channel(1);
        x.send(0, 4);
        x.close(0);
        x.offer(-1, false, 0);
        x.offer(0, false, 0);
        Check.due("choose(0, false)", true, x.choose(0, false));
        Check.outcome(x, 0, 4, true, 1, false);
        x.offer(-1, false, 0);
        x.offer(0, false, 0);
        Check.due("choose(0, false) of a closed one", true, x.choose(0, false));
        Check.outcome(x, 0, 0, false, 1, false);
    }

    private static void promise13Broken() {
        TaskDesk x = new TaskDesk();
        x.channel(1);
        x.channel(1);
        x.send(1, 8);
        x.receive(1);
        x.close(0);
        x.offer(1, true, 5);
        x.offer(0, true, 6);
        Check.unsupported("choose(1, true)", () -> x.choose(1, true));
        Check.due("count(6)", 0, x.count(6));
        Check.outcome(x, 0, 8, true, -1, false);
        Check.due("look(1, 0)", 0, x.look(1, 0));
        x.offer(1, true, 5);
        x.offer(0, true, 6);
        Check.due("choose(0, false)", true, x.choose(0, false));
        Check.outcome(x, 0, 0, true, 0, false);
    }

    private static void promise13ClosedWhileWaiting() {
        TaskDesk x = new TaskDesk();
        x.channel(0);
        x.spawn();
        x.spawn();
        x.spawn();
        x.offer(0, true, 1);
        x.offer(0, false, 2);
        x.choose(0, false);
        x.close(0);
        Check.outcome(x, 0, 0, false, 1, false);
        x.channel(0);
        x.offer(-1, true, 1);
        x.offer(1, true, 1);
        x.choose(0, false);
        x.send(1, 5);
        x.close(1);
        Check.outcome(x, 1, 0, false, 1, true);
        Check.outcome(x, 2, 0, false, -1, true);
        Check.due("task(0, 5)", 0, x.task(0, 5));
        Check.due("task(1, 5)", 1, x.task(1, 5));
        Check.due("task(2, 5)", 2, x.task(2, 5));
    }

    private static void promise13Wrong() {
        TaskDesk x = new TaskDesk();
        x.channel(1);
        x.offer(0, true, 5);
        Check.argument("choose(-1, true)", () -> x.choose(-1, true));
        Check.argument("choose(least, false)", () -> x.choose(Integer.MIN_VALUE, false));
        Check.due("count(6)", 1, x.count(6));
        x.finish();
        Check.state("choose(0, true) when all is over", () -> x.choose(0, true));
        Check.argument("choose(-1, true) when all is over", () -> x.choose(-1, true));
        Check.due("count(6)", 1, x.count(6));
        Check.due("look(0, 0)", 0, x.look(0, 0));
    }
}
