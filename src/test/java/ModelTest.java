import java.util.ArrayList;
import java.util.List;
import java.util.Random;
import java.util.function.LongSupplier;

/** Runs of calls by chance, from fixed seeds, with every answer and all that can be seen compared with the model. */
public final class ModelTest {
    private static final int RUNS = 8000;
    private static final int MOST_CALLS = 512;
    private static final int QUESTIONS_OF_A_STEP = 2;
    /** The call itself, the questions behind it, and what the step may add to all that can be asked. */
    private static final int CALLS_OF_A_STEP = 1 + 1 + QUESTIONS_OF_A_STEP + 4 + 7;
    private static final int CALLS_AFTER_THE_END = 20;
    private static final String[] CALL_NAMES = {
        "spawn", "giveWay", "finish", "sleep", "channel", "release", "alarm", "send", "receive", "close",
        "offer", "choose", "gate", "enter", "read", "leave", "change"
    };

    private final Random chance;
    private final int[] weights = new int[CALL_NAMES.length];
    private final TaskDesk desk = new TaskDesk();
    private final Model model = new Model();
    private final StringBuilder told = new StringBuilder();
    private final int channelsUsed;
    private final int gatesUsed;
    private final int longest;
    private final int mostRoom;
    private int called;
    private boolean wrong;

    private ModelTest(long seed) {
        chance = new Random(seed);
        for (int i = 0; i < weights.length; i++) {
            weights[i] = chance.nextInt(4) == 0 ? 0 : 1 + chance.nextInt(10);
        }
        weights[0] += 3;
        weights[2] = chance.nextInt(4);
        weights[9] = chance.nextInt(3);
        channelsUsed = 1 + chance.nextInt(6);
        gatesUsed = 1 + chance.nextInt(8);
        longest = 1 + chance.nextInt(5);
        mostRoom = chance.nextInt(4);
    }

    public static void main(String[] args) {
        int failures = 0;
        long[] reached = new long[8];
        for (int seed = 0; seed < RUNS && failures < 3; seed++) {
            ModelTest run = new ModelTest(seed);
            run.play();
            reached[run.model.count(7)]++;
            if (run.wrong) {
                failures++;
                Check.tell("seed " + seed + ":\n" + run.told);
            }
        }
        for (int stand = 0; stand <= 2; stand++) {
            System.out.println("runs that end with count(7) = " + stand + ": " + reached[stand]);
            Check.due("some runs end with count(7) = " + stand, true, reached[stand] > RUNS / 50);
        }
        Check.end();
    }

    /** Calls and some questions between them, until what is left of the desk's life is just enough to ask for all. */
    private void play() {
        int after = 0;
        while (!wrong && after < CALLS_AFTER_THE_END && called + CALLS_OF_A_STEP + allQuestions().size() <= MOST_CALLS) {
            step();
            askSome();
            if (chance.nextInt(10) == 0) {
                askAnything();
            }
            after += model.count(7) == 0 ? 0 : 1;
        }
        for (String question : allQuestions()) {
            ask(question);
        }
        Check.due("calls of a run are not too many", true, called <= MOST_CALLS);
    }

    private void compare(String call, LongSupplier got, LongSupplier want) {
        called++;
        String gotText = answer(got);
        String wantText = answer(want);
        told.append(call).append(" = ").append(gotText).append('\n');
        if (!gotText.equals(wantText)) {
            told.append("  due is ").append(wantText).append('\n');
            wrong = true;
        }
    }

    private static String answer(LongSupplier call) {
        try {
            return Long.toString(call.getAsLong());
        } catch (RuntimeException e) {
            return e.getClass().getSimpleName();
        }
    }

    /** What can be seen, compared without a word in the run's text unless it differs. */
    private void ask(String question) {
        called++;
        String got = Run.answer(desk, question);
        String want = answer(() -> modelAnswer(question));
        if (!got.equals(want)) {
            told.append(question).append(" = ").append(got).append(", due is ").append(want).append('\n');
            wrong = true;
        }
    }

    private long modelAnswer(String question) {
        String[] parts = question.split("[(), ]+");
        int of = parts.length > 1 ? Integer.parseInt(parts[1]) : 0;
        int what = parts.length > 2 ? Integer.parseInt(parts[2]) : 0;
        switch (parts[0]) {
            case "current": return model.current();
            case "clock": return model.clock();
            case "count": return model.count(of);
            case "outcome": return model.outcome(of);
            case "task": return model.task(of, what);
            case "look": return model.look(of, what);
            default: return model.watch(of, what);
        }
    }

    private void askSome() {
        ask("current()");
        List<String> all = allQuestions();
        for (int i = 0; i < QUESTIONS_OF_A_STEP; i++) {
            ask(all.get(chance.nextInt(all.size())));
        }
    }

    private List<String> allQuestions() {
        List<String> all = new ArrayList<>(List.of("current()", "clock()"));
        for (int what = 0; what <= 7; what++) {
            all.add("count(" + what + ")");
        }
        for (int task : model.tasks()) {
            all.add("outcome(" + task + ")");
            addAll(all, "task", task, 5);
        }
        for (int channel : model.channels()) {
            addAll(all, "look", channel, 4);
        }
        for (int gate = 0; gate < model.count(4); gate++) {
            addAll(all, "watch", gate, 2);
        }
        return all;
    }

    private static void addAll(List<String> all, String call, int of, int last) {
        for (int what = 0; what <= last; what++) {
            all.add(call + "(" + of + ", " + what + ")");
        }
    }

    /** Questions that may have no answer: seldom asked, as exceptions are slow. */
    private void askAnything() {
        int number = chance.nextInt(50) - 2;
        int what = chance.nextInt(10) - 2;
        compare("task(" + number + ", " + what + ")", () -> desk.task(number, what), () -> model.task(number, what));
        compare("outcome(" + number + ")", () -> desk.outcome(number), () -> model.outcome(number));
        int low = chance.nextInt(10) - 2;
        compare("look(" + low + ", " + what + ")", () -> desk.look(low, what), () -> model.look(low, what));
        compare("watch(" + low + ", " + what + ")", () -> desk.watch(low, what), () -> model.watch(low, what));
    }

    private String pickCall() {
        int sum = 0;
        for (int weight : weights) {
            sum += weight;
        }
        int left = chance.nextInt(sum);
        for (int i = 0; i < weights.length; i++) {
            left -= weights[i];
            if (left < 0) {
                return CALL_NAMES[i];
            }
        }
        return CALL_NAMES[0];
    }

    private int someChannel() {
        int pick = chance.nextInt(25);
        return pick == 0 ? -1 : pick == 1 ? channelsUsed + 1 : chance.nextInt(channelsUsed);
    }

    private int someGate() {
        return chance.nextInt(30) == 0 ? -1 : chance.nextInt(gatesUsed);
    }

    private long someTime() {
        int pick = chance.nextInt(40);
        return pick == 0 ? 1000000001L : pick == 1 ? -1 : chance.nextInt(longest + 1);
    }

    /** Main seldom ends, and nobody stops while he is the only one who goes on. */
    private boolean wouldEndTheRun() {
        boolean mainIt = model.current() == 0;
        boolean alone = model.count(1) == 0 && model.count(7) == 0;
        return (mainIt || alone) && chance.nextInt(6) != 0;
    }

    private void step() {
        String name = pickCall();
        if (model.count(2) < channelsUsed && chance.nextInt(4) == 0) {
            name = "channel";
        } else if (model.count(4) < gatesUsed && chance.nextInt(4) == 0) {
            name = "gate";
        } else if (name.equals("finish") && wouldEndTheRun()) {
            name = "spawn";
        } else if (model.count(1) == 0 && model.count(0) < 12 && chance.nextInt(3) != 0) {
            name = "spawn";
        }
        stepTasks(name);
        stepChannels(name);
        stepGates(name);
    }

    private void stepTasks(String name) {
        switch (name) {
            case "spawn":
                if (model.count(0) < 25) {
                    compare("spawn()", desk::spawn, model::spawn);
                }
                break;
            case "giveWay":
                compare("giveWay()", desk::giveWay, model::giveWay);
                break;
            case "finish":
                compare("finish()", desk::finish, model::finish);
                break;
            case "sleep":
                long time = someTime();
                compare("sleep(" + time + ")", () -> desk.sleep(time), () -> model.sleep(time));
                break;
            default:
                break;
        }
    }

    private void stepChannels(String name) {
        int channel = someChannel();
        long value = chance.nextInt(1000);
        switch (name) {
            case "channel":
                int room = chance.nextInt(30) == 0 ? 8193 - chance.nextInt(3) : chance.nextInt(mostRoom + 1);
                if (model.count(2) < channelsUsed) {
                    compare("channel(" + room + ")", () -> desk.channel(room), () -> model.channel(room));
                }
                break;
            case "release":
                compare("release(" + channel + ")",
                        () -> desk.release(channel) ? 1 : 0, () -> model.release(channel) ? 1 : 0);
                break;
            case "alarm":
                long time = someTime();
                compareVoid("alarm(" + channel + ", " + time + ")",
                        () -> desk.alarm(channel, time), () -> model.alarm(channel, time));
                break;
            case "send":
                compare("send(" + channel + ", " + value + ")",
                        () -> desk.send(channel, value) ? 1 : 0, () -> model.send(channel, value) ? 1 : 0);
                break;
            case "receive":
                compare("receive(" + channel + ")",
                        () -> desk.receive(channel) ? 1 : 0, () -> model.receive(channel) ? 1 : 0);
                break;
            case "close":
                compareVoid("close(" + channel + ")", () -> desk.close(channel), () -> model.close(channel));
                break;
            case "offer":
                boolean sends = chance.nextBoolean();
                compare("offer(" + channel + ", " + sends + ", " + value + ")",
                        () -> desk.offer(channel, sends, value), () -> model.offer(channel, sends, value));
                break;
            case "choose":
                int n = chance.nextInt(40) - 1;
                boolean out = chance.nextInt(4) == 0;
                compare("choose(" + n + ", " + out + ")",
                        () -> desk.choose(n, out) ? 1 : 0, () -> model.choose(n, out) ? 1 : 0);
                break;
            default:
                break;
        }
    }

    private void stepGates(String name) {
        int gate = someGate();
        switch (name) {
            case "gate":
                int kind = chance.nextInt(30) == 0 ? 5 : chance.nextInt(5);
                int lock = chance.nextInt(gatesUsed + 1) - 1;
                if (model.count(4) < gatesUsed) {
                    compare("gate(" + kind + ", " + lock + ")",
                            () -> desk.gate(kind, lock), () -> model.gate(kind, lock));
                }
                break;
            case "enter":
                compare("enter(" + gate + ")", () -> desk.enter(gate) ? 1 : 0, () -> model.enter(gate) ? 1 : 0);
                break;
            case "read":
                compare("read(" + gate + ")", () -> desk.read(gate) ? 1 : 0, () -> model.read(gate) ? 1 : 0);
                break;
            case "leave":
                compareVoid("leave(" + gate + ")", () -> desk.leave(gate), () -> model.leave(gate));
                break;
            case "change":
                int n = chance.nextInt(20) == 0 ? Integer.MAX_VALUE : chance.nextInt(5) - 2;
                compareVoid("change(" + gate + ", " + n + ")",
                        () -> desk.change(gate, n), () -> model.change(gate, n));
                break;
            default:
                break;
        }
    }

    private void compareVoid(String call, Runnable got, Runnable want) {
        compare(call, () -> none(got), () -> none(want));
    }

    private static long none(Runnable run) {
        run.run();
        return 0;
    }
}
