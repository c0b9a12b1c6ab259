import java.util.NoSuchElementException;

/** Tasks that take turns on one processor. The document DOC.md tells what each call does, promise by promise. */
public final class TaskDesk {
    public static final int NONE = -1;

    private static final int MAIN = 0;
    private static final int NOWHERE = -1;

    private static final int MOST_TASKS = 256;
    private static final int MOST_CHANNELS = 512;
    private static final int MOST_ROOM = 8192;
    private static final int MOST_ALARMS = 256;
    private static final int MOST_TIMERS = MOST_TASKS + MOST_ALARMS;
    private static final int MOST_CASES = 16;
    private static final int MOST_GATES = 256;
    private static final long LONGEST_TIME = 1000000000L;
    private static final long HIGHEST_COUNT = 1000000000L;

    // A call keeps at most one value more and tells at most one case more, so that
    // as many of each as there are calls in an object's life are always enough.
    private static final int MOST_CALLS = 512;

    private static final int CURRENT = 0;
    private static final int READY = 1;
    private static final int SENDING = 2;
    private static final int RECEIVING = 3;
    private static final int CHOOSING = 4;
    private static final int ASLEEP = 5;
    private static final int AT_GATE = 6;
    private static final int FOR_GOOD = 7;

    private static final int LOCK = 0;
    private static final int BOOK = 1;
    private static final int GROUP = 2;
    private static final int SIGNAL = 3;
    private static final int DEED = 4;

    private static final int FREE = 0;
    private static final int TAKEN = 1;
    private static final int WRITTEN = -1;
    private static final int NOT_YET = 0;
    private static final int BEING_DONE = 1;
    private static final int DONE = 2;

    private final Task[] tasks = new Task[MOST_TASKS];
    private int taskCount;
    private final Row ready = new Row();
    private Task running;
    private boolean over;

    private long now;
    private final Agenda agenda = new Agenda();
    private int alarmCount;

    private final Channel[] channels = new Channel[MOST_CHANNELS];
    private final Channel nowhere = new Channel(NOWHERE);
    private int channelCount;
    private int roomGiven;
    private Value freeValue;

    private final Place[] told = new Place[MOST_CASES];
    private int toldCount;
    private Place freePlace;

    private final Gate[] gates = new Gate[MOST_GATES];
    private int gateCount;

    public TaskDesk() {
        for (int i = 0; i < MOST_TASKS; i++) {
            Place stand = new Place(nowhere);
            Task task = new Task(i, stand);
            stand.owner = task;
            tasks[i] = task;
        }
        for (int i = 0; i < MOST_CHANNELS; i++) {
            channels[i] = new Channel(i);
        }
        for (int i = 0; i < MOST_GATES; i++) {
            gates[i] = new Gate(i);
        }
        for (int i = 0; i < MOST_CALLS; i++) {
            keepValue(new Value());
            keepPlace(new Place(nowhere));
        }
        Task main = tasks[MAIN];
        main.begin();
        main.state = CURRENT;
        taskCount = 1;
        running = main;
    }

    public int spawn() throws IllegalStateException {
        mustBeCurrent();
        Task task = firstFreeTask();
        if (task == null) {
            throw new IllegalStateException("there are 256 tasks");
        }
        task.begin();
        taskCount++;
        makeReady(task);
        return task.number;
    }

    public int giveWay() throws IllegalStateException {
        makeReady(mustBeCurrent());
        goOn();
        return current();
    }

    public int finish() throws IllegalStateException {
        Task it = mustBeCurrent();
        if (it.number == MAIN) {
            endAll();
        } else {
            it.alive = false;
            taskCount--;
            goOn();
        }
        return current();
    }

    public int sleep(long time) throws IllegalArgumentException, IllegalStateException {
        if (time > LONGEST_TIME) {
            throw new IllegalArgumentException("too long a time");
        }
        Task it = mustBeCurrent();
        if (time <= 0) {
            makeReady(it);
        } else {
            it.state = ASLEEP;
            agenda.note(now + time, it, null);
        }
        goOn();
        return current();
    }

    public int channel(int room) throws IllegalArgumentException, IllegalStateException {
        if (room < 0 || room > MOST_ROOM) {
            throw new IllegalArgumentException("no such room");
        }
        Channel made = firstFreeChannel();
        if (made == null || room > MOST_ROOM - roomGiven) {
            throw new IllegalStateException("too many channels or too much room");
        }
        made.there = true;
        made.closed = false;
        made.room = room;
        channelCount++;
        roomGiven += room;
        return made.number;
    }

    public boolean release(int channel) {
        Channel old = channelAt(channel);
        if (old == null || old.isAwaited() || isTold(old)) {
            return false;
        }
        for (int left = old.held; left > 0; left--) {
            takeValue(old);
        }
        old.there = false;
        channelCount--;
        roomGiven -= old.room;
        return true;
    }

    public void alarm(int channel, long time) throws IllegalArgumentException, IllegalStateException {
        Channel target = channelAt(channel);
        if (target == null || time < 0 || time > LONGEST_TIME) {
            throw new IllegalArgumentException("no such channel or time");
        }
        mustBeCurrent();
        if (alarmCount >= MOST_ALARMS) {
            throw new IllegalStateException("256 alarms are to ring");
        }
        agenda.note(now + time, null, target);
        target.alarms++;
        alarmCount++;
    }

    public boolean send(int channel, long value)
            throws IllegalArgumentException, IllegalStateException, UnsupportedOperationException {
        Channel target = mustBeChannel(channel);
        Task it = mustBeCurrent();
        if (target.closed) {
            throw new UnsupportedOperationException("the channel is closed");
        }
        if (takesAtOnce(target)) {
            pass(target, value);
            it.tell(0, true, NONE, false);
            return true;
        }
        it.stand.value = value;
        it.waitIn(target.senders, target == nowhere ? FOR_GOOD : SENDING, target.number);
        goOn();
        return false;
    }

    public boolean receive(int channel) throws IllegalArgumentException, IllegalStateException {
        Channel source = mustBeChannel(channel);
        Task it = mustBeCurrent();
        if (givesAtOnce(source)) {
            receiveNow(it, source, NONE);
            return true;
        }
        it.waitIn(source.receivers, source == nowhere ? FOR_GOOD : RECEIVING, source.number);
        goOn();
        return false;
    }

    public void close(int channel)
            throws IllegalArgumentException, IllegalStateException, UnsupportedOperationException {
        Channel target = mustBeChannel(channel);
        mustBeCurrent();
        if (target == nowhere || target.closed) {
            throw new UnsupportedOperationException("it cannot be closed");
        }
        target.closed = true;
        wakeAll(target.receivers, false, false);
        wakeAll(target.senders, false, true);
    }

    public int offer(int channel, boolean sends, long value) throws IllegalArgumentException, IllegalStateException {
        Channel target = mustBeChannel(channel);
        mustBeCurrent();
        Place place = freePlace;
        if (toldCount >= MOST_CASES || place == null) {
            throw new IllegalStateException("16 cases are told");
        }
        freePlace = place.sibling;
        place.target = target;
        place.sends = sends;
        place.value = value;
        place.caseNumber = toldCount;
        told[toldCount] = place;
        toldCount++;
        return place.caseNumber;
    }

    public boolean choose(int n, boolean out)
            throws IllegalArgumentException, IllegalStateException, UnsupportedOperationException {
        if (n < 0) {
            throw new IllegalArgumentException("n is below 0");
        }
        Task it = mustBeCurrent();
        Place open = openCase(n);
        if (open != null) {
            doCase(it, open);
            return true;
        }
        if (out) {
            forgetCases();
            it.tell(0, false, NONE, false);
            return true;
        }
        waitInCases(it);
        goOn();
        return false;
    }

    public int gate(int kind, int lock) throws IllegalArgumentException, IllegalStateException {
        Gate its = kind == SIGNAL ? gateAt(lock) : null;
        boolean lacksLock = kind == SIGNAL && (its == null || its.kind != LOCK);
        if (kind < LOCK || kind > DEED || lacksLock) {
            throw new IllegalArgumentException("no such kind or lock");
        }
        if (gateCount >= MOST_GATES) {
            throw new IllegalStateException("there are 256 gates");
        }
        Gate made = gates[gateCount];
        made.kind = kind;
        made.lock = its;
        gateCount++;
        return made.number;
    }

    public boolean enter(int gate)
            throws IllegalArgumentException, IllegalStateException, UnsupportedOperationException {
        Gate entered = mustBeGate(gate);
        Task it = mustBeCurrent();
        if (entered.kind == SIGNAL) {
            giveUpLockOf(entered);
        }
        if (entered.letsInAtOnce()) {
            boolean flag = entered.kind != DEED || entered.taken == NOT_YET;
            entered.take();
            it.tell(0, flag, NONE, false);
            return true;
        }
        it.waitIn(entered.waiting, AT_GATE, entered.number);
        goOn();
        return false;
    }

    public boolean read(int gate) throws IllegalArgumentException, IllegalStateException {
        Gate book = mustBeGate(gate);
        if (book.kind != BOOK) {
            throw new IllegalArgumentException("the gate is no book");
        }
        Task it = mustBeCurrent();
        if (book.taken != WRITTEN && book.waiting.first == null) {
            book.taken++;
            it.tell(0, true, NONE, false);
            return true;
        }
        it.waitIn(book.readers, AT_GATE, book.number);
        goOn();
        return false;
    }

    public void leave(int gate)
            throws IllegalArgumentException, IllegalStateException, UnsupportedOperationException {
        Gate left = mustBeGate(gate);
        mustBeCurrent();
        if (!left.canBeLeft()) {
            throw new UnsupportedOperationException("the gate cannot be given back");
        }
        switch (left.kind) {
            case LOCK:
                giveLockBack(left);
                break;
            case BOOK:
                endWriting(left);
                break;
            case GROUP:
                setGroup(left, left.taken - 1);
                break;
            case SIGNAL:
                wakeFirstOfSignal(left);
                break;
            default:
                left.taken = DONE;
                wakeAll(left.waiting, false, false);
                break;
        }
    }

    public void change(int gate, int n)
            throws IllegalArgumentException, IllegalStateException, UnsupportedOperationException {
        Gate changed = mustBeGate(gate);
        if (changed.kind == LOCK || changed.kind == DEED) {
            throw new IllegalArgumentException("such a gate does not change");
        }
        mustBeCurrent();
        if (!changed.canChangeBy(n)) {
            throw new UnsupportedOperationException("the gate cannot change so");
        }
        if (changed.kind == BOOK) {
            endReading(changed);
        } else if (changed.kind == GROUP) {
            setGroup(changed, changed.taken + n);
        } else {
            wakeAllOfSignal(changed);
        }
    }

    public int current() {
        return running == null ? NONE : running.number;
    }

    public int task(int task, int what) throws NoSuchElementException {
        Task asked = mustBeTask(task);
        switch (what) {
            case 0:
                return asked.state;
            case 1:
                return asked.at;
            case 2:
                return asked.caseNumber;
            case 3:
                return asked.flag ? 1 : 0;
            case 4:
                return asked.broken ? 1 : 0;
            case 5:
                return asked.state == READY ? countBefore(asked.stand) : NONE;
            default:
                throw new NoSuchElementException("nothing of this number is told of a task");
        }
    }

    public long outcome(int task) throws NoSuchElementException {
        return mustBeTask(task).result;
    }

    public int look(int channel, int what) throws NoSuchElementException {
        Channel asked = channelAt(channel);
        if (asked == null) {
            throw new NoSuchElementException("there is no such channel");
        }
        switch (what) {
            case 0:
                return asked.held;
            case 1:
                return asked.room;
            case 2:
                return asked.senders.length;
            case 3:
                return asked.receivers.length;
            case 4:
                return asked.closed ? 1 : 0;
            default:
                throw new NoSuchElementException("nothing of this number is told of a channel");
        }
    }

    public int watch(int gate, int what) throws NoSuchElementException {
        Gate asked = gateAt(gate);
        if (asked == null) {
            throw new NoSuchElementException("there is no such gate");
        }
        switch (what) {
            case 0:
                return asked.kind;
            case 1:
                return asked.taken;
            case 2:
                return asked.waiting.length + asked.readers.length;
            default:
                throw new NoSuchElementException("nothing of this number is told of a gate");
        }
    }

    public long clock() {
        return now;
    }

    public int count(int what) {
        switch (what) {
            case 0:
                return taskCount;
            case 1:
                return ready.length;
            case 2:
                return channelCount;
            case 3:
                return roomGiven;
            case 4:
                return gateCount;
            case 5:
                return alarmCount;
            case 6:
                return toldCount;
            case 7:
                return howItStands();
            default:
                return NONE;
        }
    }

    // ---- what the calls ask for first

    private Task mustBeCurrent() {
        if (running == null) {
            throw new IllegalStateException("no task is current");
        }
        return running;
    }

    private Task mustBeTask(int number) {
        if (number < 0 || number >= MOST_TASKS || !tasks[number].alive) {
            throw new NoSuchElementException("there is no such task");
        }
        return tasks[number];
    }

    private Channel mustBeChannel(int number) {
        Channel found = number == NOWHERE ? nowhere : channelAt(number);
        if (found == null) {
            throw new IllegalArgumentException("there is no such channel");
        }
        return found;
    }

    private Gate mustBeGate(int number) {
        Gate found = gateAt(number);
        if (found == null) {
            throw new IllegalArgumentException("there is no such gate");
        }
        return found;
    }

    private Channel channelAt(int number) {
        if (number < 0 || number >= MOST_CHANNELS || !channels[number].there) {
            return null;
        }
        return channels[number];
    }

    private Gate gateAt(int number) {
        return number < 0 || number >= gateCount ? null : gates[number];
    }

    private Task firstFreeTask() {
        for (int i = 0; i < MOST_TASKS; i++) {
            if (!tasks[i].alive) {
                return tasks[i];
            }
        }
        return null;
    }

    private Channel firstFreeChannel() {
        for (int i = 0; i < MOST_CHANNELS; i++) {
            if (!channels[i].there) {
                return channels[i];
            }
        }
        return null;
    }

    private int howItStands() {
        if (running != null) {
            return 0;
        }
        return over ? 1 : 2;
    }

    // ---- whose turn it is

    private void makeReady(Task task) {
        task.waitIn(ready, READY, NONE);
    }

    private int countBefore(Place stand) {
        int before = 0;
        for (Place place = stand.before; place != null; place = place.before) {
            before++;
        }
        return before;
    }

    // The clock goes on only while the row is empty; but all that is due at the time that
    // it has come to happens, even when the first of it has put somebody into the row.
    private void goOn() {
        running = null;
        boolean looking = ready.first == null;
        for (int left = MOST_TIMERS; looking && left > 0; left--) {
            Timer next = agenda.takeFirst();
            if (next != null) {
                now = next.time;
                ring(next);
            }
            looking = agenda.first != null && (ready.first == null || agenda.first.time == now);
        }
        Place first = ready.first;
        if (first != null) {
            first.stepOut();
            running = first.owner;
        }
        if (running != null) {
            running.state = CURRENT;
        }
    }

    private void ring(Timer timer) {
        if (timer.sleeper != null) {
            makeReady(timer.sleeper);
        }
        Channel target = timer.target;
        if (target != null) {
            target.alarms--;
            alarmCount--;
            if (takesAtOnce(target)) {
                pass(target, now);
            }
        }
    }

    private void endAll() {
        for (int i = 0; i < MOST_TASKS; i++) {
            takeOut(tasks[i]);
            tasks[i].alive = false;
        }
        taskCount = 0;
        running = null;
        over = true;
    }

    private void wake(Place place, long number, boolean flag, boolean broken) {
        Task task = place.owner;
        if (task != null) {
            task.tell(number, flag, place.caseNumber, broken);
            takeOut(task);
            task.waitIn(ready, READY, NONE);
        }
    }

    private void wakeAll(Row row, boolean flag, boolean broken) {
        for (int left = row.length; left > 0 && row.first != null; left--) {
            wake(row.first, 0, flag, broken);
        }
    }

    private void takeOut(Task task) {
        task.stand.stepOut();
        Place place = task.cases;
        task.cases = null;
        for (int left = MOST_CASES; left > 0 && place != null; left--) {
            Place next = place.sibling;
            place.stepOut();
            keepPlace(place);
            place = next;
        }
    }

    // ---- channels

    private boolean takesAtOnce(Channel target) {
        boolean hasTaker = target.receivers.first != null || target.held < target.room;
        return target != nowhere && !target.closed && hasTaker;
    }

    private boolean givesAtOnce(Channel source) {
        boolean hasGiver = source.held > 0 || source.senders.first != null;
        return source != nowhere && (source.closed || hasGiver);
    }

    private void pass(Channel target, long number) {
        Place receiver = target.receivers.first;
        if (receiver != null) {
            wake(receiver, number, true, false);
        } else {
            putValue(target, number);
        }
    }

    private void receiveNow(Task it, Channel source, int caseNumber) {
        Place sender = source.senders.first;
        boolean flag = source.held > 0 || sender != null;
        long number = 0;
        if (source.held > 0) {
            number = takeValue(source);
            if (sender != null) {
                putValue(source, sender.value);
            }
        } else if (sender != null) {
            number = sender.value;
        }
        if (sender != null) {
            wake(sender, 0, true, false);
        }
        it.tell(number, flag, caseNumber, false);
    }

    private void putValue(Channel target, long number) {
        Value value = freeValue;
        if (value != null) {
            freeValue = value.behind;
            value.number = number;
            target.append(value);
        }
    }

    private long takeValue(Channel source) {
        Value value = source.first;
        if (value == null) {
            return 0;
        }
        source.removeFirst();
        keepValue(value);
        return value.number;
    }

    private void keepValue(Value value) {
        value.behind = freeValue;
        freeValue = value;
    }

    // ---- choices

    private boolean isTold(Channel channel) {
        for (int i = 0; i < toldCount; i++) {
            if (told[i] != null && told[i].target == channel) {
                return true;
            }
        }
        return false;
    }

    private boolean isOpen(Place place) {
        if (place == null) {
            return false;
        }
        Channel target = place.target;
        return place.sends ? target.closed || takesAtOnce(target) : givesAtOnce(target);
    }

    private Place openCase(int n) {
        int open = 0;
        for (int i = 0; i < toldCount; i++) {
            open += isOpen(told[i]) ? 1 : 0;
        }
        int skipped = open > 0 ? n % open : 0;
        for (int i = 0; i < toldCount; i++) {
            if (isOpen(told[i])) {
                if (skipped == 0) {
                    return told[i];
                }
                skipped--;
            }
        }
        return null;
    }

    // What a forgotten case says can be read until the next one is told.
    private void doCase(Task it, Place place) {
        Channel target = place.target;
        forgetCases();
        if (!place.sends) {
            receiveNow(it, target, place.caseNumber);
        } else if (target.closed) {
            throw new UnsupportedOperationException("the channel is closed");
        } else {
            pass(target, place.value);
            it.tell(0, true, place.caseNumber, false);
        }
    }

    private void forgetCases() {
        for (int i = 0; i < toldCount; i++) {
            if (told[i] != null) {
                keepPlace(told[i]);
            }
        }
        toldCount = 0;
    }

    private void waitInCases(Task it) {
        it.state = FOR_GOOD;
        for (int i = 0; i < toldCount; i++) {
            Place place = told[i];
            if (place != null) {
                Row row = place.sends ? place.target.senders : place.target.receivers;
                row.append(place);
                it.adopt(place);
                it.state = place.target == nowhere ? it.state : CHOOSING;
            }
        }
        toldCount = 0;
    }

    private void keepPlace(Place place) {
        place.sibling = freePlace;
        freePlace = place;
    }

    // ---- gates

    private void giveUpLockOf(Gate signal) {
        if (signal.lock == null || signal.lock.taken == FREE) {
            throw new UnsupportedOperationException("the signal's lock is free");
        }
        giveLockBack(signal.lock);
    }

    private void giveLockBack(Gate lock) {
        Place next = lock.waiting.first;
        if (next == null) {
            lock.taken = FREE;
        } else {
            wake(next, 0, true, false);
        }
    }

    private void endWriting(Gate book) {
        if (book.readers.length > 0) {
            book.taken = book.readers.length;
            wakeAll(book.readers, true, false);
        } else {
            letWriterIn(book);
        }
    }

    private void endReading(Gate book) {
        book.taken--;
        if (book.taken == FREE) {
            letWriterIn(book);
        }
    }

    private void letWriterIn(Gate book) {
        Place writer = book.waiting.first;
        if (writer == null) {
            book.taken = FREE;
        } else {
            book.taken = WRITTEN;
            wake(writer, 0, true, false);
        }
    }

    private void setGroup(Gate group, int count) {
        group.taken = count;
        if (count == 0) {
            wakeAll(group.waiting, true, false);
        }
    }

    private void wakeAllOfSignal(Gate signal) {
        for (int left = signal.waiting.length; left > 0; left--) {
            wakeFirstOfSignal(signal);
        }
    }

    // Who is woken needs the lock before it goes on: it waits there if it must.
    private void wakeFirstOfSignal(Gate signal) {
        Place place = signal.waiting.first;
        Gate lock = signal.lock;
        if (place == null || lock == null) {
            return;
        }
        if (lock.taken == FREE) {
            lock.taken = TAKEN;
            wake(place, 0, true, false);
        } else if (place.owner != null) {
            place.stepOut();
            place.owner.waitIn(lock.waiting, AT_GATE, lock.number);
        }
    }

    // ---- what the desk keeps

    private static final class Task {
        final int number;
        // Where it stands when it stands in one row alone: ready, at a gate, or at a channel.
        final Place stand;
        boolean alive;
        int state;
        int at;
        // Where it stands in a choice: a place for each case, by their siblings.
        Place cases;
        long result;
        boolean flag;
        int caseNumber;
        boolean broken;

        Task(int number, Place stand) {
            this.number = number;
            this.stand = stand;
        }

        void begin() {
            alive = true;
            at = NONE;
            tell(0, false, NONE, false);
        }

        void tell(long newResult, boolean newFlag, int newCase, boolean newBroken) {
            result = newResult;
            flag = newFlag;
            caseNumber = newCase;
            broken = newBroken;
        }

        void waitIn(Row row, int newState, int where) {
            state = newState;
            at = where;
            row.append(stand);
        }

        void adopt(Place place) {
            place.owner = this;
            place.sibling = cases;
            cases = place;
        }
    }

    /** A task's place in a row: its own one, or one for a case of a choice. */
    private static final class Place {
        Task owner;
        Channel target;
        boolean sends;
        long value;
        int caseNumber = NONE;
        Row row;
        Place before;
        Place behind;
        Place sibling;

        Place(Channel target) {
            this.target = target;
        }

        void stepOut() {
            if (row == null) {
                return;
            }
            if (before == null) {
                row.first = behind;
            } else {
                before.behind = behind;
            }
            if (behind == null) {
                row.last = before;
            } else {
                behind.before = before;
            }
            row.length--;
            row = null;
            before = null;
            behind = null;
        }
    }

    private static final class Row {
        Place first;
        Place last;
        int length;

        void append(Place place) {
            place.row = this;
            place.before = last;
            if (last == null) {
                first = place;
            } else {
                last.behind = place;
            }
            last = place;
            length++;
        }
    }

    private static final class Channel {
        final int number;
        final Row senders = new Row();
        final Row receivers = new Row();
        boolean there;
        boolean closed;
        int room;
        int held;
        int alarms;
        Value first;
        Value last;

        Channel(int number) {
            this.number = number;
        }

        boolean isAwaited() {
            return senders.length > 0 || receivers.length > 0 || alarms > 0;
        }

        void append(Value value) {
            value.behind = null;
            if (last == null) {
                first = value;
            } else {
                last.behind = value;
            }
            last = value;
            held++;
        }

        void removeFirst() {
            if (first == null) {
                return;
            }
            first = first.behind;
            if (first == null) {
                last = null;
            }
            held--;
        }
    }

    private static final class Value {
        long number;
        Value behind;
    }

    private static final class Gate {
        final int number;
        final Row waiting = new Row();
        final Row readers = new Row();
        int kind;
        int taken;
        Gate lock;

        Gate(int number) {
            this.number = number;
        }

        boolean letsInAtOnce() {
            switch (kind) {
                case SIGNAL:
                    return false;
                case DEED:
                    return taken != BEING_DONE;
                default:
                    return taken == FREE;
            }
        }

        void take() {
            if (kind == LOCK) {
                taken = TAKEN;
            } else if (kind == BOOK) {
                taken = WRITTEN;
            } else if (kind == DEED && taken == NOT_YET) {
                taken = BEING_DONE;
            }
        }

        boolean canBeLeft() {
            switch (kind) {
                case LOCK:
                    return taken == TAKEN;
                case BOOK:
                    return taken == WRITTEN;
                case GROUP:
                    return taken > 0;
                case SIGNAL:
                    return true;
                default:
                    return taken == BEING_DONE;
            }
        }

        boolean canChangeBy(int n) {
            switch (kind) {
                case BOOK:
                    return taken > 0;
                case GROUP:
                    long sum = (long) taken + n;
                    return sum >= 0 && sum <= HIGHEST_COUNT;
                default:
                    return kind == SIGNAL;
            }
        }
    }

    /** A moment at which a task wakes or an alarm rings. */
    private static final class Timer {
        long time;
        Task sleeper;
        Channel target;
        Timer behind;
    }

    /** The timers in the order of their times, those of one time in the order in which they were asked for. */
    private static final class Agenda {
        Timer first;
        private Timer free;

        Agenda() {
            for (int i = 0; i < MOST_TIMERS; i++) {
                Timer timer = new Timer();
                timer.behind = free;
                free = timer;
            }
        }

        void note(long time, Task sleeper, Channel target) {
            Timer timer = free;
            if (timer == null) {
                return;
            }
            free = timer.behind;
            timer.time = time;
            timer.sleeper = sleeper;
            timer.target = target;
            Timer before = lastNotAfter(time);
            if (before == null) {
                timer.behind = first;
                first = timer;
            } else {
                timer.behind = before.behind;
                before.behind = timer;
            }
        }

        private Timer lastNotAfter(long time) {
            Timer found = null;
            for (Timer timer = first; timer != null && timer.time <= time; timer = timer.behind) {
                found = timer;
            }
            return found;
        }

        // What is taken can be read until the next one is noted.
        Timer takeFirst() {
            Timer taken = first;
            if (taken != null) {
                first = taken.behind;
                taken.behind = free;
                free = taken;
            }
            return taken;
        }
    }
}
