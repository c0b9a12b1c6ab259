import com.sun.management.ThreadMXBean;
import java.lang.management.ManagementFactory;
import java.util.NoSuchElementException;
import java.util.Random;

/** Whatever is called, the machine itself throws nowhere, and calls make nothing but what they throw. */
public final class MachineTest {
    private static final int[] WILD = {
        -2, -1, 0, 1, 2, 3, 4, 5, 15, 16, 17, 255, 256, 257, 511, 512, 513, 8191, 8192, 8193, 1000000000,
        1000000001, -1000000000, Integer.MAX_VALUE, Integer.MIN_VALUE
    };

    public static void main(String[] args) {
        wildCalls();
        callsMakeNothing();
        Check.end();
    }

    /** Far more calls than an object is used for: what they answer is free, but the machine throws nowhere. */
    private static void wildCalls() {
        for (int seed = 0; seed < 40; seed++) {
            Random chance = new Random(seed);
            TaskDesk x = new TaskDesk();
            for (int i = 0; i < 5000; i++) {
                wildCall(x, chance);
            }
        }
    }

    private static int pick(Random chance) {
        return chance.nextInt(3) == 0 ? WILD[chance.nextInt(WILD.length)] : chance.nextInt(6);
    }

    private static void wildCall(TaskDesk x, Random chance) {
        int call = chance.nextInt(200);
        int a = pick(chance);
        int b = pick(chance);
        try {
            oneCall(x, call < 24 ? call : call % 12, a, b);
        } catch (IllegalArgumentException | IllegalStateException | UnsupportedOperationException
                | NoSuchElementException e) {
            StackTraceElement[] trace = e.getStackTrace();
            if (trace.length == 0 || !trace[0].getClassName().startsWith("TaskDesk")) {
                Check.tell("not thrown by the class: " + e);
            }
        } catch (RuntimeException e) {
            Check.tell("call " + call + " with " + a + ", " + b + " threw " + e);
        }
    }

    private static void oneCall(TaskDesk x, int call, int a, int b) {
        switch (call) {
            case 0: case 1: case 2: x.spawn(); break;
            case 3: x.channel(a); break;
            case 4: x.alarm(a, b); break;
            case 5: x.offer(a, b % 2 == 0, b); break;
            case 6: x.gate(a, b); break;
            case 7: x.leave(a); break;
            case 8: x.change(a, b); break;
            case 9: x.giveWay(); break;
            case 10: x.choose(a, b != 5); break;
            case 11: x.release(a); break;
            case 12: x.send(a, b); break;
            case 13: x.receive(a); break;
            case 14: x.close(a); break;
            case 15: x.sleep(a); break;
            case 16: x.enter(a); break;
            case 17: x.read(a); break;
            case 18: x.task(a, b); break;
            case 19: x.outcome(a); break;
            case 20: x.look(a, b); break;
            case 21: x.watch(a, b); break;
            case 22: x.count(a); break;
            default:
                if (x.current() != 0) {
                    x.finish();
                }
                break;
        }
    }

    private static void callsMakeNothing() {
        ThreadMXBean bean = (ThreadMXBean) ManagementFactory.getThreadMXBean();
        if (!bean.isThreadAllocatedMemorySupported()) {
            return;
        }
        bean.setThreadAllocatedMemoryEnabled(true);
        long id = Thread.currentThread().getId();
        busyRun(new TaskDesk());
        TaskDesk x = new TaskDesk();
        long before = bean.getThreadAllocatedBytes(id);
        busyRun(x);
        long made = bean.getThreadAllocatedBytes(id) - before;
        // One object of the smallest kind for each call would be more than this.
        Check.due("bytes made by some 400 calls (" + made + ") are few", true, made < 2000);
    }

    /** Two tasks that wait for one another in many ways, none of which throws. */
    private static void busyRun(TaskDesk x) {
        x.channel(0);
        x.channel(2);
        for (int kind = 0; kind < 5; kind++) {
            x.gate(kind, 0);
        }
        x.spawn();
        for (int i = 0; i < 25; i++) {
            x.receive(0);
            x.send(0, i);
            x.offer(0, false, 0);
            x.offer(1, false, 0);
            x.choose(i, false);
            x.alarm(1, 3);
            x.sleep(5);
            x.send(1, i);
            x.receive(1);
            x.enter(0);
            x.leave(3);
            x.leave(0);
            x.read(1);
            x.change(1, 0);
            x.release(x.channel(7));
            x.task(x.current(), 5);
        }
        x.close(1);
    }
}
