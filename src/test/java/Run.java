import java.util.ArrayList;
import java.util.List;
import java.util.Random;

/**
 * A run of calls on a new desk that tests one sentence of the document. A line is a call with the answer that is
 * due, "send(0, 5) = true" or "spawn() = throws.IllegalStateException", or a call alone, which must not throw.
 *
 * After each line that is refused the run looks whether anything has changed: it makes the run twice more, with the
 * refused call and without it, asks both desks all that can be asked, and goes on with both in several ways. No desk
 * is used for more calls than the document allows.
 */
final class Run {
    static final int MOST_CALLS = 512;
    private static final int WAYS_TO_GO_ON = 6;
    private static final int CALLS_TO_GO_ON = 60;

    private final String sentence;
    private final TaskDesk desk = new TaskDesk();
    /** The calls that made the desk what it is: without those that were refused. */
    private final List<String> calls = new ArrayList<>();
    private int length;
    private int spawns;
    private int channels;
    private int gates;

    Run(String sentence) {
        this.sentence = sentence;
    }

    /** A run in which all is over, with channel 0 (a room of 2, a value) and a gate of each kind, numbered so. */
    static Run over(String sentence) {
        return furnished(sentence).due("finish() = -1", "count(7) = 1");
    }

    /** Likewise, but the main task waits for good. */
    static Run blocked(String sentence) {
        return furnished(sentence).due("receive(-1) = false", "current() = -1", "count(7) = 2");
    }

    private static Run furnished(String sentence) {
        return withGates(sentence, 0).due("channel(2) = 0", "send(0, 77) = true");
    }

    /** A run with a gate of each kind, numbered as its kind, and some tasks that are ready. */
    static Run withGates(String sentence, int others) {
        Run run = new Run(sentence);
        for (int kind = 0; kind < 5; kind++) {
            run.due("gate(" + kind + ", 0) = " + kind);
        }
        return run.withTasks(others);
    }

    Run withTasks(int others) {
        for (int i = 0; i < others; i++) {
            due("spawn()");
        }
        return this;
    }

    Run due(String... lines) {
        for (String line : lines) {
            int equals = line.indexOf(" = ");
            String call = equals < 0 ? line : line.substring(0, equals);
            String want = equals < 0 ? null : line.substring(equals + 3);
            String got = answer(desk, call);
            boolean wrong = want == null ? got.startsWith("throws.") : !got.equals(want);
            if (wrong) {
                tell(call + " answered " + got + ", due is " + (want == null ? "no exception" : want));
            }
            boolean refused = got.startsWith("throws.") || call.startsWith("release") && got.equals("false");
            if (refused) {
                nothingChangedBy(call, got);
            } else {
                note(call);
            }
            length++;
            if (length == MOST_CALLS + 1) {
                tell("the test itself is wrong: more than 512 calls");
            }
        }
        return this;
    }

    /** The same line many times. */
    Run times(int times, String line) {
        for (int i = 0; i < times; i++) {
            due(line);
        }
        return this;
    }

    /** A task's outcome, all four parts of it. */
    Run outcome(int task, long number, boolean flag, int caseNumber, boolean broken) {
        return due("outcome(" + task + ") = " + number, "task(" + task + ", 2) = " + caseNumber,
                "task(" + task + ", 3) = " + (flag ? 1 : 0), "task(" + task + ", 4) = " + (broken ? 1 : 0));
    }

    /** How a gate is taken and how many wait at it. */
    Run gate(int gate, int taken, int waiting) {
        return due("watch(" + gate + ", 1) = " + taken, "watch(" + gate + ", 2) = " + waiting);
    }

    /** These tasks stand in the ready row, in this order, and no others. */
    Run row(int... tasks) {
        due("count(1) = " + tasks.length);
        for (int i = 0; i < tasks.length; i++) {
            due("task(" + tasks[i] + ", 5) = " + i, "task(" + tasks[i] + ", 0) = 1");
        }
        return this;
    }

    /** How many calls have been done. */
    int length() {
        return length;
    }

    private void note(String call) {
        calls.add(call);
        spawns += call.startsWith("spawn") ? 1 : 0;
        channels += call.startsWith("channel") ? 1 : 0;
        gates += call.startsWith("gate") ? 1 : 0;
    }

    private void tell(String text) {
        Check.tell("\"" + sentence + "\", call " + (length + 1) + ": " + text);
    }

    // ---- nothing has changed

    private void nothingChangedBy(String call, String got) {
        List<String> with = new ArrayList<>(calls);
        with.add(call);
        if (call.startsWith("choose") && got.equals("throws.UnsupportedOperationException")) {
            forgetCases();
        }
        List<String> without = calls;
        List<String> questions = questions();
        for (int asked = 0; asked < questions.size();) {
            TaskDesk one = made(without);
            TaskDesk two = made(with);
            for (int left = MOST_CALLS - with.size(); left > 0 && asked < questions.size(); left--) {
                same(call, questions.get(asked), one, two);
                asked++;
            }
            if (with.size() >= MOST_CALLS) {
                return;
            }
        }
        for (int way = 0; way < WAYS_TO_GO_ON; way++) {
            goOnWithBoth(call, made(without), made(with), way);
        }
    }

    /** The cases that were told are none when a choice is broken: the run as if they had not been told. */
    private void forgetCases() {
        for (int i = calls.size() - 1; i >= 0 && !calls.get(i).startsWith("choose"); i--) {
            if (calls.get(i).startsWith("offer")) {
                calls.remove(i);
            }
        }
    }

    private static TaskDesk made(List<String> calls) {
        TaskDesk made = new TaskDesk();
        for (String call : calls) {
            answer(made, call);
        }
        return made;
    }

    private boolean same(String refused, String next, TaskDesk one, TaskDesk two) {
        String without = answer(one, next);
        String with = answer(two, next);
        if (!without.equals(with)) {
            tell(refused + " was refused but has changed something: " + next + " answers " + with
                    + " then, without it " + without);
        }
        return without.equals(with);
    }

    private void goOnWithBoth(String refused, TaskDesk one, TaskDesk two, int way) {
        Random chance = new Random(way);
        int left = Math.min(CALLS_TO_GO_ON, (MOST_CALLS - calls.size() - 1) / 3);
        boolean same = true;
        for (; left > 0 && same; left--) {
            same = same(refused, anyCall(chance), one, two) && same(refused, "current()", one, two);
            int task = chance.nextInt(spawns + 1);
            same = same && same(refused, "outcome(" + task + ")", one, two);
        }
    }

    private List<String> questions() {
        List<String> all = new ArrayList<>();
        all.add("current()");
        all.add("clock()");
        for (int what = 0; what <= 7; what++) {
            all.add("count(" + what + ")");
        }
        for (int task = 0; task <= spawns; task++) {
            all.add("outcome(" + task + ")");
            ask(all, "task", task, 5);
        }
        for (int channel = 0; channel < channels; channel++) {
            ask(all, "look", channel, 4);
        }
        for (int gate = 0; gate < gates; gate++) {
            ask(all, "watch", gate, 2);
        }
        return all;
    }

    private static void ask(List<String> all, String call, int of, int last) {
        for (int what = 0; what <= last; what++) {
            all.add(call + "(" + of + ", " + what + ")");
        }
    }

    private String anyCall(Random chance) {
        int channel = chance.nextInt(channels + 1);
        int gate = chance.nextInt(gates + 1);
        int number = chance.nextInt(20);
        switch (chance.nextInt(16)) {
            case 0: return "spawn()";
            case 1: return "giveWay()";
            case 2: return chance.nextInt(4) == 0 ? "finish()" : "giveWay()";
            case 3: return "sleep(" + number + ")";
            case 4: return "channel(" + number + ")";
            case 5: return "release(" + channel + ")";
            case 6: return "alarm(" + channel + ", " + number + ")";
            case 7: return "send(" + channel + ", " + number + ")";
            case 8: return "receive(" + channel + ")";
            case 9: return chance.nextInt(3) == 0 ? "close(" + channel + ")" : "receive(" + channel + ")";
            case 10: return "offer(" + channel + ", " + chance.nextBoolean() + ", " + number + ")";
            case 11: return "choose(" + number + ", " + chance.nextBoolean() + ")";
            case 12: return "enter(" + gate + ")";
            case 13: return "read(" + gate + ")";
            case 14: return "leave(" + gate + ")";
            default: return "change(" + gate + ", " + (number - 5) + ")";
        }
    }

    // ---- calls as texts

    /** What the desk answers to a call: a number, true, false, "done" for nothing, or throws. with a name. */
    static String answer(TaskDesk x, String call) {
        int open = call.indexOf('(');
        String inner = call.substring(open + 1, call.length() - 1);
        String[] texts = inner.isEmpty() ? new String[0] : inner.split(", ");
        long[] numbers = new long[texts.length];
        for (int i = 0; i < texts.length; i++) {
            boolean word = texts[i].equals("true") || texts[i].equals("false");
            numbers[i] = word ? (texts[i].equals("true") ? 1 : 0) : Long.parseLong(texts[i]);
        }
        try {
            return does(x, call.substring(0, open), numbers);
        } catch (RuntimeException e) {
            return "throws." + e.getClass().getSimpleName();
        }
    }

    private static int whole(long number) {
        return Math.toIntExact(number);
    }

    private static String does(TaskDesk x, String name, long[] a) {
        switch (name) {
            case "spawn": return "" + x.spawn();
            case "giveWay": return "" + x.giveWay();
            case "finish": return "" + x.finish();
            case "sleep": return "" + x.sleep(a[0]);
            case "channel": return "" + x.channel(whole(a[0]));
            case "release": return "" + x.release(whole(a[0]));
            case "alarm": x.alarm(whole(a[0]), a[1]); return "done";
            case "send": return "" + x.send(whole(a[0]), a[1]);
            case "receive": return "" + x.receive(whole(a[0]));
            case "close": x.close(whole(a[0])); return "done";
            case "offer": return "" + x.offer(whole(a[0]), a[1] == 1, a[2]);
            case "choose": return "" + x.choose(whole(a[0]), a[1] == 1);
            case "gate": return "" + x.gate(whole(a[0]), whole(a[1]));
            case "enter": return "" + x.enter(whole(a[0]));
            case "read": return "" + x.read(whole(a[0]));
            case "leave": x.leave(whole(a[0])); return "done";
            case "change": x.change(whole(a[0]), whole(a[1])); return "done";
            default: return asks(x, name, a);
        }
    }

    private static String asks(TaskDesk x, String name, long[] a) {
        switch (name) {
            case "current": return "" + x.current();
            case "task": return "" + x.task(whole(a[0]), whole(a[1]));
            case "outcome": return "" + x.outcome(whole(a[0]));
            case "look": return "" + x.look(whole(a[0]), whole(a[1]));
            case "watch": return "" + x.watch(whole(a[0]), whole(a[1]));
            case "clock": return "" + x.clock();
            case "count": return "" + x.count(whole(a[0]));
            default: throw new AssertionError("the test itself is wrong: no call " + name);
        }
    }
}
