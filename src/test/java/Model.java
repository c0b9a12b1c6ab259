import java.util.ArrayList;
import java.util.List;
import java.util.NoSuchElementException;
import java.util.TreeMap;

/**
 * The document once more, slow and plain, with the Java library: whatever waits stands in one list in the
 * order in which it came, and whoever looks for the first searches it from the front.
 */
final class Model {
    private static final class Job {
        int number;
        int state;
        int at = -1;
        long result;
        boolean flag;
        int chosen = -1;
        boolean broken;
    }

    private static final class Line {
        int room;
        boolean closed;
        final List<Long> values = new ArrayList<>();
    }

    /** Somebody who waits at a channel (or, if gate, at a gate). */
    private static final class Wait {
        Job job;
        boolean gate;
        int where;
        boolean first;
        long value;
        int caseNumber;
    }

    private static final class Due {
        long time;
        Job sleeper;
        int channel;
    }

    private static final class Barrier {
        int kind;
        int lock;
        int taken;
    }

    private static final class Option {
        int channel;
        boolean sends;
        long value;
    }

    private final TreeMap<Integer, Job> jobs = new TreeMap<>();
    private final List<Job> row = new ArrayList<>();
    private Job it;
    private boolean over;
    private long now;
    private final TreeMap<Integer, Line> lines = new TreeMap<>();
    private final List<Wait> waits = new ArrayList<>();
    private final List<Due> dues = new ArrayList<>();
    private final List<Barrier> barriers = new ArrayList<>();
    private final List<Option> options = new ArrayList<>();

    Model() {
        it = newJob();
    }

    private Job newJob() {
        Job job = new Job();
        while (jobs.containsKey(job.number)) {
            job.number++;
        }
        jobs.put(job.number, job);
        return job;
    }

    int spawn() {
        needIt();
        if (jobs.size() == 256) {
            throw new IllegalStateException();
        }
        Job job = newJob();
        toRow(job);
        return job.number;
    }

    int giveWay() {
        needIt();
        toRow(it);
        next();
        return current();
    }

    int finish() {
        needIt();
        if (it.number == 0) {
            jobs.clear();
            row.clear();
            waits.clear();
            it = null;
            over = true;
        } else {
            jobs.remove(it.number);
            next();
        }
        return current();
    }

    int sleep(long time) {
        if (time > 1000000000L) {
            throw new IllegalArgumentException();
        }
        if (time <= 0) {
            return giveWay();
        }
        needIt();
        Due due = new Due();
        due.time = now + time;
        due.sleeper = it;
        dues.add(due);
        it.state = 5;
        next();
        return current();
    }

    int channel(int room) {
        if (room < 0 || room > 8192) {
            throw new IllegalArgumentException();
        }
        if (lines.size() == 512 || count(3) + room > 8192) {
            throw new IllegalStateException();
        }
        int number = 0;
        while (lines.containsKey(number)) {
            number++;
        }
        Line line = new Line();
        line.room = room;
        lines.put(number, line);
        return number;
    }

    boolean release(int channel) {
        boolean used = !lines.containsKey(channel) || find(channel, true) != null || find(channel, false) != null;
        for (Due due : dues) {
            used |= due.sleeper == null && due.channel == channel;
        }
        for (Option option : options) {
            used |= option.channel == channel;
        }
        if (!used) {
            lines.remove(channel);
        }
        return !used;
    }

    void alarm(int channel, long time) {
        if (!lines.containsKey(channel) || time < 0 || time > 1000000000L) {
            throw new IllegalArgumentException();
        }
        needIt();
        if (count(5) == 256) {
            throw new IllegalStateException();
        }
        Due due = new Due();
        due.time = now + time;
        due.channel = channel;
        dues.add(due);
    }

    boolean send(int channel, long value) {
        needChannel(channel);
        needIt();
        if (channel >= 0 && lines.get(channel).closed) {
            throw new UnsupportedOperationException();
        }
        if (opens(channel, true)) {
            doSend(channel, value);
            tell(it, 0, true, -1, false);
            return true;
        }
        stand(false, channel, true, value, -1);
        waitAs(channel == -1 ? 7 : 2, channel);
        return false;
    }

    boolean receive(int channel) {
        needChannel(channel);
        needIt();
        if (opens(channel, false)) {
            doReceive(channel, -1);
            return true;
        }
        stand(false, channel, false, 0, -1);
        waitAs(channel == -1 ? 7 : 3, channel);
        return false;
    }

    void close(int channel) {
        needChannel(channel);
        needIt();
        if (channel == -1 || lines.get(channel).closed) {
            throw new UnsupportedOperationException();
        }
        lines.get(channel).closed = true;
        for (Wait w = find(channel, false); w != null; w = find(channel, false)) {
            wake(w, 0, false, false);
        }
        for (Wait w = find(channel, true); w != null; w = find(channel, true)) {
            wake(w, 0, false, true);
        }
    }

    int offer(int channel, boolean sends, long value) {
        needChannel(channel);
        needIt();
        if (options.size() == 16) {
            throw new IllegalStateException();
        }
        Option option = new Option();
        option.channel = channel;
        option.sends = sends;
        option.value = value;
        options.add(option);
        return options.size() - 1;
    }

    boolean choose(int n, boolean out) {
        if (n < 0) {
            throw new IllegalArgumentException();
        }
        needIt();
        List<Option> all = new ArrayList<>(options);
        options.clear();
        List<Integer> open = new ArrayList<>();
        for (int i = 0; i < all.size(); i++) {
            if (opens(all.get(i).channel, all.get(i).sends)) {
                open.add(i);
            }
        }
        if (!open.isEmpty()) {
            int taken = open.get(n % open.size());
            Option option = all.get(taken);
            if (!option.sends) {
                doReceive(option.channel, taken);
            } else if (lines.get(option.channel).closed) {
                throw new UnsupportedOperationException();
            } else {
                doSend(option.channel, option.value);
                tell(it, 0, true, taken, false);
            }
            return true;
        }
        if (out) {
            tell(it, 0, false, -1, false);
            return true;
        }
        boolean some = false;
        for (int i = 0; i < all.size(); i++) {
            Option option = all.get(i);
            some |= option.channel != -1;
            stand(false, option.channel, option.sends, option.value, i);
        }
        waitAs(some ? 4 : 7, -1);
        return false;
    }

    int gate(int kind, int lock) {
        boolean lacks = kind == 3 && (lock < 0 || lock >= barriers.size() || barriers.get(lock).kind != 0);
        if (kind < 0 || kind > 4 || lacks) {
            throw new IllegalArgumentException();
        }
        if (barriers.size() == 256) {
            throw new IllegalStateException();
        }
        Barrier barrier = new Barrier();
        barrier.kind = kind;
        barrier.lock = lock;
        barriers.add(barrier);
        return barriers.size() - 1;
    }

    boolean enter(int gate) {
        Barrier g = needGate(gate);
        needIt();
        boolean flag = true;
        boolean waits = g.taken != 0;
        if (g.kind == 0 && !waits) {
            g.taken = 1;
        } else if (g.kind == 1 && !waits) {
            g.taken = -1;
        } else if (g.kind == 3) {
            if (barriers.get(g.lock).taken == 0) {
                throw new UnsupportedOperationException();
            }
            unlock(g.lock);
            waits = true;
        } else if (g.kind == 4) {
            flag = g.taken == 0;
            waits = g.taken == 1;
            g.taken = Math.max(g.taken, 1);
        }
        if (!waits) {
            tell(it, 0, flag, -1, false);
            return true;
        }
        stand(true, gate, true, 0, -1);
        waitAs(6, gate);
        return false;
    }

    boolean read(int gate) {
        if (needGate(gate).kind != 1) {
            throw new IllegalArgumentException();
        }
        needIt();
        Barrier g = barriers.get(gate);
        if (g.taken >= 0 && findAtGate(gate, true) == null) {
            g.taken++;
            tell(it, 0, true, -1, false);
            return true;
        }
        stand(true, gate, false, 0, -1);
        waitAs(6, gate);
        return false;
    }

    void leave(int gate) {
        Barrier g = needGate(gate);
        needIt();
        int needed = g.kind == 1 ? -1 : 1;
        boolean can = g.kind == 3 || (g.kind == 2 ? g.taken > 0 : g.taken == needed);
        if (!can) {
            throw new UnsupportedOperationException();
        }
        if (g.kind == 0) {
            unlock(gate);
        } else if (g.kind == 1) {
            g.taken = 0;
            for (Wait w = findAtGate(gate, false); w != null; w = findAtGate(gate, false)) {
                g.taken++;
                wake(w, 0, true, false);
            }
            writerIn(gate);
        } else if (g.kind == 2) {
            change(gate, -1);
        } else if (g.kind == 3) {
            signal(gate);
        } else {
            g.taken = 2;
            for (Wait w = findAtGate(gate, true); w != null; w = findAtGate(gate, true)) {
                wake(w, 0, false, false);
            }
        }
    }

    void change(int gate, int n) {
        Barrier g = needGate(gate);
        if (g.kind == 0 || g.kind == 4) {
            throw new IllegalArgumentException();
        }
        needIt();
        if (g.kind == 1) {
            if (g.taken <= 0) {
                throw new UnsupportedOperationException();
            }
            g.taken--;
            writerIn(gate);
        } else if (g.kind == 2) {
            long sum = (long) g.taken + n;
            if (sum < 0 || sum > 1000000000L) {
                throw new UnsupportedOperationException();
            }
            g.taken = (int) sum;
            for (Wait w = findAtGate(gate, true); w != null && sum == 0; w = findAtGate(gate, true)) {
                wake(w, 0, true, false);
            }
        } else {
            while (findAtGate(gate, true) != null) {
                signal(gate);
            }
        }
    }

    int current() {
        return it == null ? -1 : it.number;
    }

    int task(int task, int what) {
        Job job = needJob(task);
        int[] answers = {job.state, job.at, job.chosen, job.flag ? 1 : 0, job.broken ? 1 : 0, row.indexOf(job)};
        return answers[need(what, answers.length)];
    }

    long outcome(int task) {
        return needJob(task).result;
    }

    int look(int channel, int what) {
        Line line = lines.get(channel);
        if (line == null) {
            throw new NoSuchElementException();
        }
        int senders = 0;
        int receivers = 0;
        for (Wait w : waits) {
            if (!w.gate && w.where == channel) {
                senders += w.first ? 1 : 0;
                receivers += w.first ? 0 : 1;
            }
        }
        int[] answers = {line.values.size(), line.room, senders, receivers, line.closed ? 1 : 0};
        return answers[need(what, answers.length)];
    }

    int watch(int gate, int what) {
        if (gate < 0 || gate >= barriers.size()) {
            throw new NoSuchElementException();
        }
        int waiting = 0;
        for (Wait w : waits) {
            waiting += w.gate && w.where == gate ? 1 : 0;
        }
        int[] answers = {barriers.get(gate).kind, barriers.get(gate).taken, waiting};
        return answers[need(what, answers.length)];
    }

    long clock() {
        return now;
    }

    int count(int what) {
        int room = 0;
        for (Line line : lines.values()) {
            room += line.room;
        }
        int alarms = 0;
        for (Due due : dues) {
            alarms += due.sleeper == null ? 1 : 0;
        }
        int stands = it != null ? 0 : over ? 1 : 2;
        int[] answers = {jobs.size(), row.size(), lines.size(), room, barriers.size(), alarms, options.size(), stands};
        return what < 0 || what >= answers.length ? -1 : answers[what];
    }

    Iterable<Integer> tasks() {
        return jobs.keySet();
    }

    Iterable<Integer> channels() {
        return lines.keySet();
    }

    // ---- what the calls share

    private void needIt() {
        if (it == null) {
            throw new IllegalStateException();
        }
    }

    private void needChannel(int channel) {
        if (channel != -1 && !lines.containsKey(channel)) {
            throw new IllegalArgumentException();
        }
    }

    private Barrier needGate(int gate) {
        if (gate < 0 || gate >= barriers.size()) {
            throw new IllegalArgumentException();
        }
        return barriers.get(gate);
    }

    private Job needJob(int task) {
        Job job = jobs.get(task);
        if (job == null) {
            throw new NoSuchElementException();
        }
        return job;
    }

    private static int need(int what, int length) {
        if (what < 0 || what >= length) {
            throw new NoSuchElementException();
        }
        return what;
    }

    private static void tell(Job job, long result, boolean flag, int chosen, boolean broken) {
        job.result = result;
        job.flag = flag;
        job.chosen = chosen;
        job.broken = broken;
    }

    private void toRow(Job job) {
        job.state = 1;
        job.at = -1;
        row.add(job);
    }

    private void next() {
        it = null;
        while (row.isEmpty() && !dues.isEmpty()) {
            long least = Long.MAX_VALUE;
            for (Due due : dues) {
                least = Math.min(least, due.time);
            }
            now = least;
            List<Due> rung = new ArrayList<>();
            for (Due due : dues) {
                if (due.time == now) {
                    rung.add(due);
                }
            }
            dues.removeAll(rung);
            for (Due due : rung) {
                if (due.sleeper != null) {
                    toRow(due.sleeper);
                } else if (!lines.get(due.channel).closed && opens(due.channel, true)) {
                    doSend(due.channel, now);
                }
            }
        }
        if (!row.isEmpty()) {
            it = row.remove(0);
            it.state = 0;
        }
    }

    private void stand(boolean gate, int where, boolean first, long value, int caseNumber) {
        Wait w = new Wait();
        w.job = it;
        w.gate = gate;
        w.where = where;
        w.first = first;
        w.value = value;
        w.caseNumber = caseNumber;
        waits.add(w);
    }

    private void waitAs(int state, int at) {
        it.state = state;
        it.at = at;
        next();
    }

    private Wait findIn(boolean gate, int where, boolean first) {
        for (Wait w : waits) {
            if (w.gate == gate && w.where == where && w.first == first) {
                return w;
            }
        }
        return null;
    }

    private Wait find(int channel, boolean sends) {
        return findIn(false, channel, sends);
    }

    private Wait findAtGate(int gate, boolean first) {
        return findIn(true, gate, first);
    }

    private void wake(Wait w, long result, boolean flag, boolean broken) {
        tell(w.job, result, flag, w.caseNumber, broken);
        waits.removeIf(other -> other.job == w.job);
        toRow(w.job);
    }

    private boolean opens(int channel, boolean sends) {
        if (channel == -1) {
            return false;
        }
        Line line = lines.get(channel);
        boolean space = sends ? line.values.size() < line.room : !line.values.isEmpty();
        return line.closed || space || find(channel, !sends) != null;
    }

    private void doSend(int channel, long value) {
        Wait receiver = find(channel, false);
        if (receiver != null) {
            wake(receiver, value, true, false);
        } else {
            lines.get(channel).values.add(value);
        }
    }

    private void doReceive(int channel, int caseNumber) {
        Line line = lines.get(channel);
        Wait sender = find(channel, true);
        if (sender != null) {
            line.values.add(sender.value);
            wake(sender, 0, true, false);
        }
        boolean some = !line.values.isEmpty();
        tell(it, some ? line.values.remove(0) : 0, some, caseNumber, false);
    }

    private void unlock(int lock) {
        Wait w = findAtGate(lock, true);
        if (w == null) {
            barriers.get(lock).taken = 0;
        } else {
            wake(w, 0, true, false);
        }
    }

    private void writerIn(int book) {
        Wait w = findAtGate(book, true);
        if (barriers.get(book).taken == 0 && w != null) {
            barriers.get(book).taken = -1;
            wake(w, 0, true, false);
        }
    }

    private void signal(int gate) {
        Wait w = findAtGate(gate, true);
        if (w == null) {
            return;
        }
        int lock = barriers.get(gate).lock;
        if (barriers.get(lock).taken == 0) {
            barriers.get(lock).taken = 1;
            wake(w, 0, true, false);
        } else {
            waits.remove(w);
            w.where = lock;
            w.job.at = lock;
            waits.add(w);
        }
    }
}
