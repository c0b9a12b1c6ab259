/** Promises 14 to 18 and 23: locks, books, groups, signals and deeds. */
public final class GatesTest {
    private static final int LOCK = 0;
    private static final int BOOK = 1;
    private static final int GROUP = 2;
    private static final int SIGNAL = 3;
    private static final int DEED = 4;
    private static final int[] NO_GATES = {-1, -2, 5, 255, 256, Integer.MAX_VALUE, Integer.MIN_VALUE};

    public static void main(String[] args) {
        promise14Gate();
        promise14Wrong();
        promise15And17Lock();
        promise15And17Book();
        promise15And17Group();
        promise15And17Signal();
        promise15SignalGivesLockToWhoWaits();
        promise17SignalWithFreeLock();
        promise15And17Deed();
        promise15Wrong();
        promise16Read();
        promise16ReaderBehindWriter();
        promise16Wrong();
        promise17WriterLetsReadersIn();
        promise17Wrong();
        promise17UnsupportedOnNewGates();
        promise18LastReaderLetsWriterIn();
        promise18SignalWakesAll();
        promise18Group();
        promise18Wrong();
        promise23Watch();
        Check.end();
    }

    /** A desk with a gate of each kind, numbered as its kind, and some tasks that are ready. */
    private static TaskDesk deskWithGates(int others) {
        TaskDesk x = new TaskDesk();
        for (int kind = 0; kind < 5; kind++) {
            x.gate(kind, 0);
        }
        for (int i = 0; i < others; i++) {
            x.spawn();
        }
        return x;
    }

    /** The state of a gate: how it is taken, and how many wait. */
    private static void gate(TaskDesk x, int gate, int taken, int waiting) {
        Check.due("watch(" + gate + ", 1)", taken, x.watch(gate, 1));
        Check.due("watch(" + gate + ", 2)", waiting, x.watch(gate, 2));
    }

    /** These tasks stand in the ready row, in this order, and no others. */
    private static void row(TaskDesk x, int... tasks) {
        Check.due("count(1)", tasks.length, x.count(1));
        for (int i = 0; i < tasks.length; i++) {
            Check.due("task(" + tasks[i] + ", 5)", i, x.task(tasks[i], 5));
        }
    }

    private static void promise14Gate() {
        TaskDesk x = new TaskDesk();
        Check.due("gate(1, -9)", 0, x.gate(1, -9));
        Check.due("gate(0, 77)", 1, x.gate(0, 77));
        Check.due("gate(3, 1)", 2, x.gate(3, 1));
        Check.due("gate(3, 1)", 3, x.gate(3, 1));
        Check.due("gate(2, 256)", 4, x.gate(2, 256));
        x.finish();
        Check.due("gate(4, 0) when all is over", 5, x.gate(4, 0));
        Check.due("count(4)", 6, x.count(4));
        int[] kinds = {1, 0, 3, 3, 2, 4};
        for (int i = 0; i < kinds.length; i++) {
            Check.due("watch(" + i + ", 0)", kinds[i], x.watch(i, 0));
            gate(x, i, 0, 0);
        }
    }

    private static void promise14Wrong() {
        TaskDesk x = new TaskDesk();
        Check.argument("gate(3, 0) without a lock", () -> x.gate(3, 0));
        int[] kinds = {-1, 5, Integer.MAX_VALUE, Integer.MIN_VALUE};
        for (int kind : kinds) {
            Check.argument("gate(" + kind + ", 0)", () -> x.gate(kind, 0));
        }
        Check.due("count(4)", 0, x.count(4));
        TaskDesk y = deskWithGates(0);
        int[] locks = {-1, 1, 2, 3, 4, 5, 256, Integer.MAX_VALUE, Integer.MIN_VALUE};
        for (int lock : locks) {
            Check.argument("gate(3, " + lock + ")", () -> y.gate(3, lock));
        }
        for (int i = 5; i < 256; i++) {
            Check.due("gate", i, y.gate(i % 5, 0));
        }
        Check.state("gate(0, 0) as the 257th", () -> y.gate(0, 0));
        Check.argument("gate(5, 0) as the 257th", () -> y.gate(5, 0));
        Check.due("count(4)", 256, y.count(4));
        Check.due("watch(255, 0)", 0, y.watch(255, 0));
    }

    private static void promise15And17Lock() {
        TaskDesk x = deskWithGates(2);
        Check.due("enter(LOCK)", true, x.enter(LOCK));
        Check.outcome(x, 0, 0, true, -1, false);
        gate(x, LOCK, 1, 0);
        x.giveWay();
        Check.due("enter(LOCK) when taken", false, x.enter(LOCK));
        Check.due("task(1, 0)", 6, x.task(1, 0));
        Check.due("task(1, 1)", LOCK, x.task(1, 1));
        Check.outcome(x, 1, 0, false, -1, false);
        Check.due("enter(LOCK) when taken", false, x.enter(LOCK));
        gate(x, LOCK, 1, 2);
        x.leave(LOCK);
        gate(x, LOCK, 1, 1);
        row(x, 1);
        Check.outcome(x, 1, 0, true, -1, false);
        x.giveWay();
        x.leave(LOCK);
        row(x, 0, 2);
        gate(x, LOCK, 1, 0);
        x.leave(LOCK);
        gate(x, LOCK, 0, 0);
        TaskDesk y = deskWithGates(0);
        y.enter(LOCK);
        Check.due("enter(LOCK) of who has it", false, y.enter(LOCK));
        Check.due("count(7)", 2, y.count(7));
    }

    private static void promise15And17Book() {
        TaskDesk x = deskWithGates(3);
        Check.due("enter(BOOK)", true, x.enter(BOOK));
        Check.outcome(x, 0, 0, true, -1, false);
        gate(x, BOOK, -1, 0);
        x.giveWay();
        Check.due("enter(BOOK) when written", false, x.enter(BOOK));
        Check.due("enter(BOOK) when written", false, x.enter(BOOK));
        x.giveWay();
        gate(x, BOOK, -1, 2);
        x.leave(BOOK);
        gate(x, BOOK, -1, 1);
        row(x, 3, 1);
        x.leave(BOOK);
        row(x, 3, 1, 2);
        Check.outcome(x, 2, 0, true, -1, false);
        x.leave(BOOK);
        gate(x, BOOK, 0, 0);
        x.read(BOOK);
        Check.due("enter(BOOK) of who reads it", false, x.enter(BOOK));
        Check.due("task(0, 0)", 6, x.task(0, 0));
        Check.due("task(0, 1)", BOOK, x.task(0, 1));
    }

    private static void promise15And17Group() {
        TaskDesk x = deskWithGates(2);
        Check.due("enter(GROUP) at 0", true, x.enter(GROUP));
        Check.outcome(x, 0, 0, true, -1, false);
        gate(x, GROUP, 0, 0);
        x.change(GROUP, 2);
        x.giveWay();
        Check.due("enter(GROUP) at 2", false, x.enter(GROUP));
        Check.due("enter(GROUP) at 2", false, x.enter(GROUP));
        gate(x, GROUP, 2, 2);
        Check.due("task(2, 1)", GROUP, x.task(2, 1));
        x.leave(GROUP);
        gate(x, GROUP, 1, 2);
        row(x);
        x.leave(GROUP);
        gate(x, GROUP, 0, 0);
        row(x, 1, 2);
        Check.outcome(x, 1, 0, true, -1, false);
        Check.outcome(x, 2, 0, true, -1, false);
    }

    private static void promise15And17Signal() {
        TaskDesk x = deskWithGates(3);
        x.enter(LOCK);
        Check.due("enter(SIGNAL)", false, x.enter(SIGNAL));
        gate(x, LOCK, 0, 0);
        gate(x, SIGNAL, 0, 1);
        Check.due("task(0, 1)", SIGNAL, x.task(0, 1));
        x.enter(LOCK);
        x.enter(SIGNAL);
        gate(x, SIGNAL, 0, 2);
        x.enter(LOCK);
        x.giveWay();
        x.enter(LOCK);
        Check.due("current()", 2, x.current());
        x.leave(SIGNAL);
        gate(x, SIGNAL, 0, 1);
        gate(x, LOCK, 1, 2);
        Check.due("task(0, 0)", 6, x.task(0, 0));
        Check.due("task(0, 1)", LOCK, x.task(0, 1));
        row(x);
        x.leave(LOCK);
        row(x, 3);
        x.leave(LOCK);
        row(x, 3, 0);
        gate(x, LOCK, 1, 0);
        Check.outcome(x, 0, 0, true, -1, false);
        x.leave(SIGNAL);
        x.leave(SIGNAL);
        gate(x, SIGNAL, 0, 0);
        gate(x, LOCK, 1, 1);
    }

    private static void promise15SignalGivesLockToWhoWaits() {
        TaskDesk x = deskWithGates(2);
        x.enter(LOCK);
        x.giveWay();
        x.enter(LOCK);
        x.giveWay();
        Check.due("current()", 0, x.current());
        Check.due("enter(SIGNAL)", false, x.enter(SIGNAL));
        gate(x, LOCK, 1, 0);
        Check.due("current()", 2, x.current());
        row(x, 1);
        Check.outcome(x, 1, 0, true, -1, false);
    }

    private static void promise17SignalWithFreeLock() {
        TaskDesk x = deskWithGates(1);
        x.channel(0);
        x.close(0);
        x.enter(LOCK);
        x.receive(0);
        Check.outcome(x, 0, 0, false, -1, false);
        x.enter(SIGNAL);
        Check.outcome(x, 0, 0, false, -1, false);
        x.leave(SIGNAL);
        row(x, 0);
        gate(x, LOCK, 1, 0);
        Check.outcome(x, 0, 0, true, -1, false);
        x.leave(SIGNAL);
        row(x, 0);
    }

    private static void promise15And17Deed() {
        TaskDesk x = deskWithGates(2);
        Check.due("enter(DEED)", true, x.enter(DEED));
        Check.outcome(x, 0, 0, true, -1, false);
        gate(x, DEED, 1, 0);
        x.giveWay();
        x.enter(GROUP);
        Check.due("enter(DEED) meanwhile", false, x.enter(DEED));
        Check.due("enter(DEED) meanwhile", false, x.enter(DEED));
        gate(x, DEED, 1, 2);
        Check.due("task(1, 1)", DEED, x.task(1, 1));
        Check.outcome(x, 1, 0, true, -1, false);
        x.leave(DEED);
        gate(x, DEED, 2, 0);
        row(x, 1, 2);
        Check.outcome(x, 1, 0, false, -1, false);
        Check.outcome(x, 2, 0, false, -1, false);
        Check.due("enter(DEED) later", true, x.enter(DEED));
        Check.outcome(x, 0, 0, false, -1, false);
        gate(x, DEED, 2, 0);
        Check.unsupported("leave(DEED) when done", () -> x.leave(DEED));
    }

    private static void promise15Wrong() {
        TaskDesk x = deskWithGates(0);
        for (int number : NO_GATES) {
            Check.argument("enter(" + number + ")", () -> x.enter(number));
        }
        Check.unsupported("enter(SIGNAL) with a free lock", () -> x.enter(SIGNAL));
        gate(x, SIGNAL, 0, 0);
        Check.due("current()", 0, x.current());
        x.finish();
        for (int gate = 0; gate < 5; gate++) {
            int number = gate;
            Check.state("enter(" + number + ") when all is over", () -> x.enter(number));
        }
        Check.argument("enter(5) when all is over", () -> x.enter(5));
    }

    private static void promise16Read() {
        TaskDesk x = deskWithGates(2);
        Check.due("read(BOOK)", true, x.read(BOOK));
        Check.outcome(x, 0, 0, true, -1, false);
        x.giveWay();
        Check.due("read(BOOK)", true, x.read(BOOK));
        Check.due("read(BOOK) twice", true, x.read(BOOK));
        gate(x, BOOK, 3, 0);
        x.change(BOOK, 0);
        x.change(BOOK, 0);
        x.change(BOOK, 0);
        x.enter(BOOK);
        Check.due("current()", 1, x.current());
        x.giveWay();
        Check.due("read(BOOK) when written", false, x.read(BOOK));
        Check.due("task(2, 0)", 6, x.task(2, 0));
        Check.due("task(2, 1)", BOOK, x.task(2, 1));
        gate(x, BOOK, -1, 1);
    }

    private static void promise16ReaderBehindWriter() {
        TaskDesk x = deskWithGates(3);
        x.read(BOOK);
        x.giveWay();
        Check.due("enter(BOOK) when read", false, x.enter(BOOK));
        Check.due("read(BOOK) when a writer waits", false, x.read(BOOK));
        gate(x, BOOK, 1, 2);
        x.change(BOOK, 0);
        gate(x, BOOK, -1, 1);
        row(x, 0, 1);
        x.leave(BOOK);
        gate(x, BOOK, 1, 0);
        row(x, 0, 1, 2);
    }

    private static void promise16Wrong() {
        TaskDesk x = deskWithGates(0);
        for (int number : NO_GATES) {
            Check.argument("read(" + number + ")", () -> x.read(number));
        }
        int[] others = {LOCK, GROUP, SIGNAL, DEED};
        for (int number : others) {
            Check.argument("read(" + number + ")", () -> x.read(number));
        }
        x.finish();
        Check.state("read(BOOK) when all is over", () -> x.read(BOOK));
        Check.argument("read(LOCK) when all is over", () -> x.read(LOCK));
    }

    private static void promise17WriterLetsReadersIn() {
        TaskDesk x = deskWithGates(5);
        x.enter(BOOK);
        x.giveWay();
        x.enter(BOOK);
        x.read(BOOK);
        x.enter(BOOK);
        x.read(BOOK);
        Check.due("current()", 5, x.current());
        gate(x, BOOK, -1, 4);
        x.leave(BOOK);
        gate(x, BOOK, 2, 2);
        row(x, 0, 2, 4);
        Check.outcome(x, 4, 0, true, -1, false);
        x.read(BOOK);
        Check.due("current()", 0, x.current());
        x.change(BOOK, 7);
        gate(x, BOOK, 1, 3);
        row(x, 2, 4);
        x.change(BOOK, 7);
        gate(x, BOOK, -1, 2);
        row(x, 2, 4, 1);
        x.leave(BOOK);
        gate(x, BOOK, 1, 1);
        row(x, 2, 4, 1, 5);
    }

    private static void promise17Wrong() {
        TaskDesk x = deskWithGates(0);
        for (int number : NO_GATES) {
            Check.argument("leave(" + number + ")", () -> x.leave(number));
        }
        x.finish();
        for (int gate = 0; gate < 5; gate++) {
            int number = gate;
            Check.state("leave(" + number + ") when all is over", () -> x.leave(number));
        }
        Check.argument("leave(5) when all is over", () -> x.leave(5));
    }

    private static void promise17UnsupportedOnNewGates() {
        TaskDesk x = deskWithGates(0);
        int[] free = {LOCK, BOOK, GROUP, DEED};
        for (int number : free) {
            Check.unsupported("leave(" + number + ")", () -> x.leave(number));
            gate(x, number, 0, 0);
        }
        x.leave(SIGNAL);
        gate(x, SIGNAL, 0, 0);
        x.read(BOOK);
        Check.unsupported("leave(BOOK) when read alone", () -> x.leave(BOOK));
        gate(x, BOOK, 1, 0);
    }

    private static void promise18LastReaderLetsWriterIn() {
        TaskDesk x = deskWithGates(2);
        x.read(BOOK);
        x.read(BOOK);
        x.giveWay();
        x.enter(BOOK);
        x.enter(BOOK);
        Check.due("current()", 0, x.current());
        x.change(BOOK, -5);
        gate(x, BOOK, 1, 2);
        row(x);
        x.change(BOOK, Integer.MAX_VALUE);
        gate(x, BOOK, -1, 1);
        row(x, 1);
        Check.outcome(x, 1, 0, true, -1, false);
        Check.outcome(x, 0, 0, true, -1, false);
    }

    private static void promise18SignalWakesAll() {
        TaskDesk x = deskWithGates(4);
        for (int i = 0; i < 3; i++) {
            x.enter(LOCK);
            x.enter(SIGNAL);
        }
        x.enter(LOCK);
        x.giveWay();
        x.enter(LOCK);
        Check.due("current()", 3, x.current());
        x.change(SIGNAL, Integer.MIN_VALUE);
        gate(x, SIGNAL, 0, 0);
        gate(x, LOCK, 1, 4);
        row(x);
        for (int i = 0; i < 4; i++) {
            x.leave(LOCK);
        }
        row(x, 4, 0, 1, 2);
        gate(x, LOCK, 1, 0);
        TaskDesk y = deskWithGates(2);
        y.enter(LOCK);
        y.enter(SIGNAL);
        y.enter(LOCK);
        y.enter(SIGNAL);
        gate(y, LOCK, 0, 0);
        y.change(SIGNAL, 1);
        row(y, 0);
        gate(y, LOCK, 1, 1);
        Check.due("task(1, 1)", LOCK, y.task(1, 1));
        y.change(SIGNAL, 1);
        row(y, 0);
    }

    private static void promise18Group() {
        TaskDesk x = deskWithGates(1);
        x.change(GROUP, 1000000000);
        gate(x, GROUP, 1000000000, 0);
        Check.unsupported("change(GROUP, 1)", () -> x.change(GROUP, 1));
        Check.unsupported("change(GROUP, greatest)", () -> x.change(GROUP, Integer.MAX_VALUE));
        x.change(GROUP, -999999998);
        Check.unsupported("change(GROUP, -3)", () -> x.change(GROUP, -3));
        Check.unsupported("change(GROUP, least)", () -> x.change(GROUP, Integer.MIN_VALUE));
        gate(x, GROUP, 2, 0);
        x.enter(GROUP);
        x.change(GROUP, 0);
        row(x);
        x.change(GROUP, -2);
        row(x, 0);
        gate(x, GROUP, 0, 0);
        x.change(GROUP, 0);
        gate(x, GROUP, 0, 0);
        Check.unsupported("change(GROUP, -1)", () -> x.change(GROUP, -1));
    }

    private static void promise18Wrong() {
        TaskDesk x = deskWithGates(0);
        for (int number : NO_GATES) {
            Check.argument("change(" + number + ", 1)", () -> x.change(number, 1));
        }
        Check.argument("change(LOCK, 1)", () -> x.change(LOCK, 1));
        Check.argument("change(DEED, 1)", () -> x.change(DEED, 1));
        Check.unsupported("change(BOOK, 1)", () -> x.change(BOOK, 1));
        x.enter(BOOK);
        Check.unsupported("change(BOOK, 1) when written", () -> x.change(BOOK, 1));
        gate(x, BOOK, -1, 0);
        x.change(SIGNAL, 1);
        x.finish();
        Check.state("change(BOOK, 1) when all is over", () -> x.change(BOOK, 1));
        Check.state("change(GROUP, -1) when all is over", () -> x.change(GROUP, -1));
        Check.state("change(SIGNAL, 1) when all is over", () -> x.change(SIGNAL, 1));
        Check.argument("change(LOCK, 1) when all is over", () -> x.change(LOCK, 1));
    }

    private static void promise23Watch() {
        TaskDesk x = deskWithGates(0);
        for (int gate = 0; gate < 5; gate++) {
            Check.due("watch(" + gate + ", 0)", gate, x.watch(gate, 0));
            gate(x, gate, 0, 0);
        }
        for (int number : NO_GATES) {
            Check.noElement("watch(" + number + ", 0)", () -> x.watch(number, 0));
        }
        int[] whats = {-1, 3, Integer.MAX_VALUE, Integer.MIN_VALUE};
        for (int what : whats) {
            Check.noElement("watch(0, " + what + ")", () -> x.watch(0, what));
        }
    }
}
