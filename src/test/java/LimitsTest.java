import com.sun.management.ThreadMXBean;
import java.lang.management.ManagementFactory;
import java.util.NoSuchElementException;
import java.util.Random;

/** The greatest numbers of the document, wild arguments, and that calls make nothing but what they throw. */
public final class LimitsTest {
    private static final int[] WILD = {
        -2, -1, 0, 1, 2, 3, 4, 5, 15, 16, 17, 255, 256, 257, 511, 512, 513, 8191, 8192, 8193, 1000000000,
        1000000001, -1000000000, Integer.MAX_VALUE, Integer.MIN_VALUE
    };

    public static void main(String[] args) {
        tasksAtMost();
        channelsAtMost();
        manyValues();
        manySleepersAndAlarms();
        manyCasesThatWait();
        casesToldAgainAndAgain();
        wildCalls();
        callsMakeNothing();
        Check.end();
    }

    private static void tasksAtMost() {
        TaskDesk x = new TaskDesk();
        for (int i = 1; i < 256; i++) {
            Check.due("spawn()", i, x.spawn());
        }
        Check.state("spawn() as the 257th", x::spawn);
        Check.due("count(0)", 256, x.count(0));
        Check.due("count(1)", 255, x.count(1));
        Check.due("task(255, 5)", 254, x.task(255, 5));
        Check.due("giveWay()", 1, x.giveWay());
        Check.due("finish()", 2, x.finish());
        Check.due("spawn()", 1, x.spawn());
        Check.due("task(1, 5)", 254, x.task(1, 5));
        Check.state("spawn() as the 257th", x::spawn);
    }

    private static void channelsAtMost() {
        TaskDesk x = new TaskDesk();
        for (int i = 0; i < 512; i++) {
            Check.due("channel(16)", i, x.channel(16));
        }
        Check.state("channel(0) as the 513th", () -> x.channel(0));
        Check.due("count(2)", 512, x.count(2));
        Check.due("count(3)", 8192, x.count(3));
        Check.due("look(511, 1)", 16, x.look(511, 1));
        Check.due("release(300)", true, x.release(300));
        Check.due("channel(16)", 300, x.channel(16));
    }

    private static void manyValues() {
        TaskDesk x = new TaskDesk();
        x.channel(8000);
        for (int i = 0; i < 250; i++) {
            Check.due("send(0, ..)", true, x.send(0, 7L * i));
        }
        Check.due("look(0, 0)", 250, x.look(0, 0));
        for (int i = 0; i < 120; i++) {
            x.receive(0);
            Check.due("outcome(0)", 7L * i, x.outcome(0));
        }
        x.channel(192);
        for (int i = 0; i < 10; i++) {
            x.send(1, i);
            x.send(0, 7L * (250 + i));
        }
        x.release(1);
        for (int i = 120; i < 260; i++) {
            x.receive(0);
            Check.due("outcome(0)", 7L * i, x.outcome(0));
        }
        Check.due("look(0, 0)", 0, x.look(0, 0));
    }

    private static void manySleepersAndAlarms() {
        TaskDesk x = new TaskDesk();
        x.channel(1);
        for (int i = 0; i < 126; i++) {
            x.spawn();
        }
        for (int i = 0; i < 126; i++) {
            x.alarm(0, i % 7);
            x.sleep(i % 5 + 1);
        }
        Check.due("current()", 126, x.current());
        Check.due("count(5)", 126, x.count(5));
        x.receive(-1);
        Check.due("current(): the first to sleep for 1", 0, x.current());
        Check.due("clock()", 1, x.clock());
        Check.due("count(5): those of 0 and 1 have rung", 90, x.count(5));
        Check.due("look(0, 0)", 1, x.look(0, 0));
        for (int i = 0; i < 26; i++) {
            Check.due("giveWay()", i == 25 ? 0 : 5 * (i + 1), x.giveWay());
        }
    }

    private static void manyCasesThatWait() {
        TaskDesk x = new TaskDesk();
        for (int i = 0; i < 16; i++) {
            x.channel(0);
        }
        for (int i = 0; i < 25; i++) {
            x.spawn();
        }
        for (int task = 0; task < 25; task++) {
            for (int i = 0; i < 16; i++) {
                x.offer((task + i) % 16, false, 0);
            }
            x.choose(task, false);
        }
        Check.due("current()", 25, x.current());
        Check.due("look(0, 3)", 25, x.look(0, 3));
        x.send(3, 33);
        Check.outcome(x, 0, 33, true, 3, false);
        Check.due("look(0, 3)", 24, x.look(0, 3));
        x.close(2);
        Check.due("count(1)", 25, x.count(1));
        Check.due("task(24, 5)", 24, x.task(24, 5));
        Check.due("task(1, 2)", 1, x.task(1, 2));
        Check.due("task(24, 2)", 10, x.task(24, 2));
        for (int i = 0; i < 16; i++) {
            Check.due("look(" + i + ", 3)", 0, x.look(i, 3));
        }
    }

    private static void casesToldAgainAndAgain() {
        TaskDesk x = new TaskDesk();
        x.channel(0);
        for (int i = 0; i < 29; i++) {
            for (int k = 0; k < 16; k++) {
                Check.due("offer", k, x.offer(k % 2 - 1, k % 3 == 0, k));
            }
            Check.due("choose(0, true)", true, x.choose(0, true));
        }
        Check.due("release(0)", true, x.release(0));
    }

    /** Far more calls than an object is used for: what they answer is free, but the machine throws nowhere. */
    private static void wildCalls() {
        for (int seed = 0; seed < 40; seed++) {
            Random chance = new Random(seed);
            TaskDesk x = new TaskDesk();
            for (int i = 0; i < 5000; i++) {
                wildCall(x, chance);
            }
        }
    }

    private static int pick(Random chance) {
        return chance.nextInt(3) == 0 ? WILD[chance.nextInt(WILD.length)] : chance.nextInt(6);
    }

    private static void wildCall(TaskDesk x, Random chance) {
        int call = chance.nextInt(200);
        int a = pick(chance);
        int b = pick(chance);
        try {
            oneCall(x, call < 24 ? call : call % 12, a, b);
        } catch (IllegalArgumentException | IllegalStateException | UnsupportedOperationException
                | NoSuchElementException e) {
            StackTraceElement[] trace = e.getStackTrace();
            if (trace.length == 0 || !trace[0].getClassName().startsWith("TaskDesk")) {
                Check.tell("not thrown by the class: " + e);
            }
        } catch (RuntimeException e) {
            Check.tell("call " + call + " with " + a + ", " + b + " threw " + e);
        }
    }

    private static void oneCall(TaskDesk x, int call, int a, int b) {
        switch (call) {
            case 0: case 1: case 2: x.spawn(); break;
            case 3: x.channel(a); break;
            case 4: x.alarm(a, b); break;
            case 5: x.offer(a, b % 2 == 0, b); break;
            case 6: x.gate(a, b); break;
            case 7: x.leave(a); break;
            case 8: x.change(a, b); break;
            case 9: x.giveWay(); break;
            case 10: x.choose(a, b != 5); break;
            case 11: x.release(a); break;
            case 12: x.send(a, b); break;
            case 13: x.receive(a); break;
            case 14: x.close(a); break;
            case 15: x.sleep(a); break;
            case 16: x.enter(a); break;
            case 17: x.read(a); break;
            case 18: x.task(a, b); break;
            case 19: x.outcome(a); break;
            case 20: x.look(a, b); break;
            case 21: x.watch(a, b); break;
            case 22: x.count(a); break;
            default:
                if (x.current() != 0) {
                    x.finish();
                }
                break;
        }
    }

    private static void callsMakeNothing() {
        ThreadMXBean bean = (ThreadMXBean) ManagementFactory.getThreadMXBean();
        if (!bean.isThreadAllocatedMemorySupported()) {
            return;
        }
        bean.setThreadAllocatedMemoryEnabled(true);
        long id = Thread.currentThread().getId();
        busyRun(new TaskDesk());
        TaskDesk x = new TaskDesk();
        long before = bean.getThreadAllocatedBytes(id);
        busyRun(x);
        long made = bean.getThreadAllocatedBytes(id) - before;
        // One object of the smallest kind for each call would be more than this.
        Check.due("bytes made by some 400 calls (" + made + ") are few", true, made < 2000);
    }

    /** Two tasks that wait for one another in many ways, none of which throws. */
    private static void busyRun(TaskDesk x) {
        x.channel(0);
        x.channel(2);
        for (int kind = 0; kind < 5; kind++) {
            x.gate(kind, 0);
        }
        x.spawn();
        for (int i = 0; i < 25; i++) {
            x.receive(0);
            x.send(0, i);
            x.offer(0, false, 0);
            x.offer(1, false, 0);
            x.choose(i, false);
            x.alarm(1, 3);
            x.sleep(5);
            x.send(1, i);
            x.receive(1);
            x.enter(0);
            x.leave(3);
            x.leave(0);
            x.read(1);
            x.change(1, 0);
            x.release(x.channel(7));
            x.task(x.current(), 5);
        }
        x.close(1);
    }
}
