/** The sentences on gates that name a bound or what happens at one. */
public final class GateEdgesTest {
    private static final String LEAST = "" + Integer.MIN_VALUE;
    private static final String GREATEST = "" + Integer.MAX_VALUE;
    /** None of them is there when there is a gate of each kind. */
    private static final String[] NO_GATES = {"-1", "-2", "5", "6", "255", "256", "257", LEAST, GREATEST};

    public static void main(String[] args) {
        atMost256();
        lockFoundTaken();
        lockGivenBack();
        bookReaders();
        bookWriters();
        bookWriterGivesBack();
        bookLastReaderGivesBack();
        group();
        groupAtZero();
        signalGivesLockBackFirst();
        signalWokenTakesLock();
        signalWokenWaitsAtLock();
        signalWithNobody();
        signalsOfOneLock();
        deed();
        whoEnters();
        promise14();
        promise14Wrong();
        promise15();
        promise15Wrong();
        promise15Signal();
        promise16();
        promise16Wrong();
        promise17();
        promise17Wrong();
        promise17Refused();
        promise18Book();
        promise18Signal();
        promise18Group();
        promise18Wrong();
        promise23();
        promise23Wrong();
        Check.end();
    }

    // ---- Terms: GATES

    private static void atMost256() {
        Run run = new Run("GATES, numbered in the order of making, 0, 1, .., at most 256");
        for (int i = 0; i < 256; i++) {
            run.due("gate(" + i % 5 + ", 0) = " + i);
        }
        run.due("count(4) = 256", "gate(0, 0) = throws.IllegalStateException", "gate(3, 0) = throws.IllegalStateException");
        run.due("gate(5, 0) = throws.IllegalArgumentException", "gate(3, 1) = throws.IllegalArgumentException");
        run.due("count(4) = 256", "watch(255, 0) = 0", "watch(256, 0) = throws.NoSuchElementException");
        run.due("enter(255) = true", "watch(255, 1) = 1", "enter(256) = throws.IllegalArgumentException");
        run.due("finish() = -1", "gate(0, 0) = throws.IllegalStateException");
    }

    private static void lockFoundTaken() {
        String sentence = "who finds it taken waits (who has it, too; anybody may give a gate back)";
        Run.withGates(sentence, 2).due("enter(0) = true").gate(0, 1, 0).due("giveWay() = 1", "enter(0) = false")
                .gate(0, 1, 1).due("task(1, 0) = 6", "task(1, 1) = 0", "current() = 2", "leave(0)").row(0, 1)
                .gate(0, 1, 0);
        Run.withGates(sentence, 0).due("enter(0) = true", "enter(0) = false", "current() = -1", "count(7) = 2")
                .gate(0, 1, 1).due("task(0, 0) = 6");
        Run.withGates(sentence, 1).due("enter(0) = true", "giveWay() = 1", "leave(0) = done").gate(0, 0, 0);
        Run.withGates(sentence, 1).due("enter(4) = true", "giveWay() = 1", "leave(4) = done").gate(4, 2, 0);
        Run.withGates(sentence, 1).due("enter(1) = true", "giveWay() = 1", "leave(1) = done").gate(1, 0, 0);
        Run.withGates(sentence, 1).due("read(1) = true", "giveWay() = 1", "change(1, 0) = done").gate(1, 0, 0);
    }

    private static void lockGivenBack() {
        String sentence = "Giving it back, the first that waits has it and wakes.";
        Run.withGates(sentence, 3).due("enter(0)", "giveWay()", "enter(0) = false", "enter(0) = false", "giveWay() = 0")
                .gate(0, 1, 2).due("leave(0)").row(3, 1).gate(0, 1, 1).outcome(1, 0, true, -1, false)
                .outcome(2, 0, false, -1, false).due("leave(0)").row(3, 1, 2).gate(0, 1, 0).due("enter(0) = false")
                .gate(0, 1, 1);
        Run.withGates(sentence, 0).due("enter(0) = true", "leave(0)").gate(0, 0, 0).due("enter(0) = true", "leave(0)")
                .due("leave(0) = throws.UnsupportedOperationException").gate(0, 0, 0);
    }

    private static void bookReaders() {
        String sentence = "any number of READERS or one WRITER; a reader waits when a writer has it or waits";
        Run many = Run.withGates(sentence, 1);
        for (int i = 1; i <= 200; i++) {
            many.due("read(1) = true");
        }
        many.gate(1, 200, 0).times(200, "change(1, 0) = done").gate(1, 0, 0);
        Run.withGates(sentence, 1).due("enter(1) = true").gate(1, -1, 0).due("read(1) = false").gate(1, -1, 1)
                .due("current() = 1", "task(0, 0) = 6", "task(0, 1) = 1");
        Run.withGates(sentence, 2).due("read(1) = true", "giveWay() = 1", "enter(1) = false").gate(1, 1, 1)
                .due("read(1) = false").gate(1, 1, 2).due("current() = 0", "read(1) = false", "count(7) = 2");
    }

    private static void bookWriters() {
        String sentence = "a writer when anybody has it (who reads it himself, too)";
        Run.withGates(sentence, 1).due("read(1) = true", "enter(1) = false").gate(1, 1, 1).due("current() = 1");
        Run.withGates(sentence, 1).due("enter(1) = true", "enter(1) = false").gate(1, -1, 1).due("current() = 1");
        Run.withGates(sentence, 1).due("read(1) = true", "giveWay() = 1", "enter(1) = false").gate(1, 1, 1);
        Run.withGates(sentence, 1).due("read(1)", "change(1, 0)", "enter(1) = true").gate(1, -1, 0);
    }

    private static void bookWriterGivesBack() {
        String sentence = "a writer who gives it back lets all readers in that wait by then, or if there are none the first writer";
        Run.withGates(sentence, 5).due("enter(1)", "giveWay()", "enter(1) = false", "read(1) = false", "enter(1) = false")
                .due("read(1) = false", "current() = 5").gate(1, -1, 4).due("leave(1)").gate(1, 2, 2).row(0, 2, 4)
                .outcome(2, 0, true, -1, false).outcome(4, 0, true, -1, false).outcome(1, 0, false, -1, false);
        Run.withGates(sentence, 3).due("enter(1)", "giveWay()", "enter(1) = false", "enter(1) = false", "giveWay() = 0")
                .due("leave(1)").gate(1, -1, 1).row(3, 1).outcome(1, 0, true, -1, false).due("leave(1)").gate(1, -1, 0)
                .row(3, 1, 2).due("leave(1)").gate(1, 0, 0).due("leave(1) = throws.UnsupportedOperationException");
        Run.withGates(sentence, 1).due("enter(1)", "giveWay()", "read(1) = false", "leave(1)").gate(1, 1, 0).row(1)
                .due("read(1) = true").gate(1, 2, 0);
    }

    private static void bookLastReaderGivesBack() {
        String sentence = "the last reader lets the first writer in; they wake in their order";
        Run.withGates(sentence, 4).due("read(1)", "read(1)", "giveWay()", "enter(1) = false", "read(1) = false")
                .due("enter(1) = false", "current() = 4").gate(1, 2, 3).due("change(1, 0)").gate(1, 1, 3).row(0)
                .due("change(1, 0)").gate(1, -1, 2).row(0, 1).due("leave(1)").gate(1, 1, 1).row(0, 1, 2)
                .due("change(1, 0)").gate(1, -1, 0).row(0, 1, 2, 3).outcome(3, 0, true, -1, false);
        Run.withGates(sentence, 0).due("read(1)", "change(1, 0)").gate(1, 0, 0).due("enter(1) = true");
    }

    private static void group() {
        String sentence = "who waits for it goes on when it is 0; when it becomes 0 all that wait wake";
        Run.withGates(sentence, 3).due("enter(2) = true", "change(2, 2)", "enter(2) = false", "enter(2) = false")
                .gate(2, 2, 2).due("task(1, 1) = 2", "leave(2)").gate(2, 1, 2).row(3).due("leave(2)").gate(2, 0, 0)
                .row(3, 0, 1).outcome(0, 0, true, -1, false).outcome(1, 0, true, -1, false).due("enter(2) = true");
        Run.withGates(sentence, 2).due("change(2, 1)", "enter(2) = false", "change(2, 1)").gate(2, 2, 1)
                .due("enter(2) = false", "change(2, -1)").gate(2, 1, 2).row().due("change(2, -1)").gate(2, 0, 0)
                .row(0, 1);
    }

    private static void groupAtZero() {
        Run.withGates("who waits for it goes on when it is 0", 1).due("enter(2) = true", "current() = 0")
                .outcome(0, 0, true, -1, false).gate(2, 0, 0).due("change(2, 0)").gate(2, 0, 0).due("enter(2) = true")
                .due("change(2, 1)", "change(2, 0)").gate(2, 1, 0).due("enter(2) = false", "change(2, 0)")
                .gate(2, 1, 1).row();
    }

    private static void signalGivesLockBackFirst() {
        String sentence = "who waits for it gives its lock back first";
        Run.withGates(sentence, 1).due("enter(0)", "enter(3) = false", "current() = 1").gate(0, 0, 0).gate(3, 0, 1)
                .due("task(0, 0) = 6", "task(0, 1) = 3", "enter(0) = true");
        Run.withGates(sentence, 3).due("enter(0)", "giveWay()", "enter(0) = false", "enter(0) = false", "giveWay() = 0")
                .due("enter(3) = false", "current() = 3").gate(0, 1, 1).gate(3, 0, 1).row(1)
                .outcome(1, 0, true, -1, false);
        Run.withGates(sentence, 1).due("enter(0)", "giveWay() = 1", "enter(3) = false", "current() = 0").gate(0, 0, 0)
                .due("leave(0) = throws.UnsupportedOperationException");
    }

    private static void signalWokenTakesLock() {
        String sentence = "woken, it takes the lock (and comes to the row's end; waiting at it, if it is taken, behind others)";
        Run.withGates(sentence, 3).due("enter(0)", "enter(3) = false", "leave(3)").gate(3, 0, 0).gate(0, 1, 0)
                .row(2, 3, 0).outcome(0, 0, true, -1, false).due("enter(0) = false", "task(1, 1) = 0");
        Run.withGates(sentence, 3).due("channel(1) = 0", "send(0, 9)", "receive(0)", "enter(0)", "send(0, 9)")
                .due("receive(0)", "enter(3) = false").outcome(0, 9, true, -1, false).due("leave(3)")
                .outcome(0, 0, true, -1, false);
    }

    private static void signalWokenWaitsAtLock() {
        String sentence = "waiting at it, if it is taken, behind others) before it goes on";
        Run.withGates(sentence, 3).due("enter(0)", "enter(3) = false", "enter(0) = true", "giveWay() = 2")
                .due("enter(0) = false", "current() = 3", "leave(3)").gate(3, 0, 0).gate(0, 1, 2).row(1)
                .due("task(0, 0) = 6", "task(0, 1) = 0", "leave(0)").row(1, 2).gate(0, 1, 1).due("leave(0)")
                .row(1, 2, 0).gate(0, 1, 0).outcome(0, 0, true, -1, false).due("leave(0)").gate(0, 0, 0);
        Run.withGates(sentence, 1).due("channel(1) = 0", "enter(0)", "send(0, 9)", "receive(0)", "enter(3) = false")
                .due("enter(0) = true", "leave(3)", "task(0, 1) = 0").outcome(0, 9, true, -1, false).due("leave(0)")
                .outcome(0, 0, true, -1, false).row(0);
    }

    private static void signalWithNobody() {
        Run.withGates("the first that waits is woken", 1).due("leave(3) = done", "change(3, 1) = done").gate(3, 0, 0)
                .gate(0, 0, 0).row(1).due("enter(0)", "leave(3)").gate(0, 1, 0).due("enter(3) = false")
                .gate(3, 0, 1).due("current() = 1", "task(0, 0) = 6");
    }

    private static void signalsOfOneLock() {
        Run.withGates("3 a SIGNAL with a lock", 3).due("gate(3, 0) = 5", "enter(0)", "enter(3) = false", "enter(0)")
                .due("enter(5) = false").gate(3, 0, 1).gate(5, 0, 1).due("leave(5)").gate(3, 0, 1).gate(5, 0, 0)
                .row(3, 1).due("leave(3)").gate(0, 1, 1).gate(3, 0, 0).row(3, 1).due("task(0, 1) = 0");
    }

    private static void deed() {
        String sentence = "the first who asks must do it (flag true) and tell; who asks meanwhile waits, and wakes when it is "
                + "told; later ones go on at once; the two have flag false";
        Run.withGates(sentence, 3).gate(4, 0, 0).due("enter(4) = true").outcome(0, 0, true, -1, false).gate(4, 1, 0)
                .due("giveWay() = 1", "enter(2) = true", "enter(4) = false").outcome(1, 0, true, -1, false)
                .due("enter(4) = false").gate(4, 1, 2).due("giveWay() = 0", "leave(4)").gate(4, 2, 0).row(3, 1, 2)
                .outcome(1, 0, false, -1, false).outcome(2, 0, false, -1, false).due("enter(2) = true")
                .due("enter(4) = true").outcome(0, 0, false, -1, false).gate(4, 2, 0)
                .due("leave(4) = throws.UnsupportedOperationException").gate(4, 2, 0).due("enter(4) = true");
        Run.withGates(sentence, 0).due("enter(4) = true", "enter(4) = false", "count(7) = 2").gate(4, 1, 1);
    }

    private static void whoEnters() {
        String sentence = "Whoever enters another gate, or reads, has number 0, flag true (at once, or when it wakes).";
        String[] enters = {"enter(0) = true", "enter(1) = true", "read(1) = true", "enter(2) = true"};
        for (String enter : enters) {
            Run.withGates(sentence, 0).due("channel(1) = 0", "send(0, 9)", "offer(0, false, 0)", "choose(0, false)")
                    .outcome(0, 9, true, 0, false).due(enter).outcome(0, 0, true, -1, false);
            Run.withGates(sentence, 0).due("channel(1) = 0", "close(0)", "receive(0)").outcome(0, 0, false, -1, false)
                    .due(enter).outcome(0, 0, true, -1, false);
        }
        String[] waits = {"enter(0)", "enter(1)", "read(1)", "enter(2)"};
        String[] leaves = {"leave(0)", "leave(1)", "leave(1)", "leave(2)"};
        for (int i = 0; i < waits.length; i++) {
            Run.withGates(sentence, 1).due("channel(1) = 0", "enter(0)", "enter(1)", "change(2, 1)", "send(0, 9)")
                    .due("offer(0, false, 0)", "choose(0, false)", waits[i] + " = false")
                    .outcome(0, 9, true, 0, false).due(leaves[i]).outcome(0, 0, true, -1, false).row(0);
        }
    }

    // ---- promises 14 to 16

    private static void promise14() {
        String sentence = "A new gate of a kind, 0 .. 4 (for 3 with a lock, which must be one; for others it does not matter)";
        Run run = new Run(sentence).due("gate(0, -1) = 0", "gate(1, 5) = 1", "gate(2, " + LEAST + ") = 2");
        run.due("gate(4, " + GREATEST + ") = 3", "gate(3, 0) = 4", "gate(0, 3) = 5", "gate(3, 5) = 6", "count(4) = 7");
        int[] kinds = {0, 1, 2, 4, 3, 0, 3};
        for (int i = 0; i < kinds.length; i++) {
            run.due("watch(" + i + ", 0) = " + kinds[i]).gate(i, 0, 0);
        }
        run.due("enter(4) = throws.UnsupportedOperationException", "enter(5)", "enter(6) = false").gate(5, 0, 0);
    }

    private static void promise14Wrong() {
        Run run = new Run("IllegalArgumentException: no such kind or lock; IllegalStateException: there are 256.");
        run.due("gate(3, 0) = throws.IllegalArgumentException", "gate(3, -1) = throws.IllegalArgumentException");
        for (String kind : new String[] {"-1", "5", "6", LEAST, GREATEST}) {
            run.due("gate(" + kind + ", 0) = throws.IllegalArgumentException", "count(4) = 0");
        }
        for (int kind = 0; kind < 5; kind++) {
            run.due("gate(" + kind + ", 0) = " + kind);
        }
        for (String lock : new String[] {"-1", "1", "2", "3", "4", "5", "256", LEAST, GREATEST}) {
            run.due("gate(3, " + lock + ") = throws.IllegalArgumentException", "count(4) = 5");
        }
        run.due("gate(3, 0) = 5");
    }

    private static void promise15() {
        String sentence = "It takes a gate: LOCK, BOOK (to write), GROUP (waits for it), SIGNAL (waits for it), "
                + "DEED (asks): true when it goes on at once.";
        Run.withGates(sentence, 1).due("enter(0) = true", "enter(1) = true", "enter(2) = true", "enter(4) = true")
                .due("current() = 0", "enter(3) = false", "current() = 1").gate(0, 0, 0).gate(1, -1, 0).gate(2, 0, 0)
                .gate(3, 0, 1).gate(4, 1, 0);
        int[] taken = {1, -1, 1, 0, 1};
        for (int gate = 0; gate < 5; gate++) {
            Run.withGates(sentence, 1).due("enter(0)", "enter(1)", "change(2, 1)", "enter(4)", "enter(" + gate + ") = false")
                    .due("current() = 1", "task(0, 0) = 6", "task(0, 1) = " + gate).gate(gate, taken[gate], 1);
        }
    }

    private static void promise15Wrong() {
        String sentence = "IllegalArgumentException: there is no such gate; IllegalStateException: there is no current one";
        new Run(sentence).due("enter(0) = throws.IllegalArgumentException");
        Run run = Run.withGates(sentence, 1);
        for (String gate : NO_GATES) {
            run.due("enter(" + gate + ") = throws.IllegalArgumentException");
        }
        Run[] runs = {Run.over(sentence), Run.blocked(sentence)};
        for (Run none : runs) {
            for (int gate = 0; gate < 5; gate++) {
                none.due("enter(" + gate + ") = throws.IllegalStateException");
            }
            none.due("enter(5) = throws.IllegalArgumentException", "enter(-1) = throws.IllegalArgumentException");
        }
    }

    private static void promise15Signal() {
        String sentence = "UnsupportedOperationException: a SIGNAL's lock is free.";
        Run.withGates(sentence, 1).due("enter(3) = throws.UnsupportedOperationException", "current() = 0").gate(3, 0, 0)
                .gate(0, 0, 0).due("enter(0)", "leave(0)", "enter(3) = throws.UnsupportedOperationException")
                .outcome(0, 0, true, -1, false).due("gate(0, 0) = 5", "enter(5)")
                .due("enter(3) = throws.UnsupportedOperationException", "enter(0)", "enter(3) = false")
                .due("enter(3) = throws.UnsupportedOperationException");
    }

    private static void promise16() {
        Run.withGates("It takes a BOOK to read: likewise.", 2).due("read(1) = true", "current() = 0").gate(1, 1, 0)
                .outcome(0, 0, true, -1, false).due("giveWay() = 1", "read(1) = true").gate(1, 2, 0)
                .due("enter(1) = false", "read(1) = false", "current() = 0").gate(1, 2, 2);
    }

    private static void promise16Wrong() {
        String sentence = "It takes a BOOK to read: likewise. IllegalArgumentException: it is none.";
        Run run = Run.withGates(sentence, 1);
        for (String gate : NO_GATES) {
            run.due("read(" + gate + ") = throws.IllegalArgumentException");
        }
        for (int gate : new int[] {0, 2, 3, 4}) {
            run.due("read(" + gate + ") = throws.IllegalArgumentException").gate(gate, 0, 0);
        }
        run.due("read(1) = true");
        Run[] runs = {Run.over(sentence), Run.blocked(sentence)};
        for (Run none : runs) {
            none.due("read(1) = throws.IllegalStateException", "read(0) = throws.IllegalArgumentException");
            none.due("read(5) = throws.IllegalArgumentException").gate(1, 0, 0);
        }
    }

    // ---- promises 17, 18 and 23

    private static void promise17() {
        String sentence = "It gives a gate back (whoever took it): LOCK, BOOK (as who writes), GROUP (the count falls by 1), "
                + "SIGNAL (the first that waits is woken), DEED (it is told that it is done).";
        Run.withGates(sentence, 1).due("enter(0)", "enter(1)", "change(2, 2)", "enter(4)", "giveWay() = 1", "leave(0)")
                .due("leave(1)", "leave(2)", "leave(3)", "leave(4)").gate(0, 0, 0).gate(1, 0, 0).gate(2, 1, 0).gate(3, 0, 0)
                .gate(4, 2, 0).row(0).due("current() = 1");
        Run.withGates(sentence, 3).due("enter(0)", "enter(3)", "enter(0)", "enter(3)").gate(3, 0, 2)
                .due("leave(3)").gate(3, 0, 1).row(3, 0).due("task(1, 1) = 3", "leave(0)", "leave(3)").gate(3, 0, 0)
                .row(3, 0, 1).gate(0, 1, 0);
    }

    private static void promise17Wrong() {
        String sentence = "IllegalArgumentException: there is no such gate; IllegalStateException: there is no current one; "
                + "UnsupportedOperationException: it is free";
        Run run = Run.withGates(sentence, 1);
        for (String gate : NO_GATES) {
            run.due("leave(" + gate + ") = throws.IllegalArgumentException");
        }
        Run[] runs = {Run.over(sentence), Run.blocked(sentence)};
        for (Run none : runs) {
            for (int gate = 0; gate < 5; gate++) {
                none.due("leave(" + gate + ") = throws.IllegalStateException");
            }
            none.due("leave(5) = throws.IllegalArgumentException", "leave(-1) = throws.IllegalArgumentException");
        }
        Run.withGates(sentence, 0).due("enter(0)", "enter(1)", "change(2, 1)", "enter(4)", "receive(-1) = false")
                .due("leave(0) = throws.IllegalStateException", "leave(1) = throws.IllegalStateException")
                .due("leave(2) = throws.IllegalStateException", "leave(4) = throws.IllegalStateException");
    }

    private static void promise17Refused() {
        String sentence = "UnsupportedOperationException: it is free, nobody writes, the count is 0, "
                + "the deed is not being done (never for a SIGNAL).";
        Run run = Run.withGates(sentence, 1);
        for (int gate : new int[] {0, 1, 2, 4}) {
            run.due("leave(" + gate + ") = throws.UnsupportedOperationException").gate(gate, 0, 0);
        }
        run.due("leave(3) = done", "read(1)", "leave(1) = throws.UnsupportedOperationException").gate(1, 1, 0);
        run.due("enter(0)", "leave(0) = done", "leave(0) = throws.UnsupportedOperationException").gate(0, 0, 0);
        run.due("change(2, 1)", "leave(2) = done", "leave(2) = throws.UnsupportedOperationException").gate(2, 0, 0);
        run.due("enter(4)", "leave(4) = done", "leave(4) = throws.UnsupportedOperationException").gate(4, 2, 0);
        run.due("change(1, 0)", "enter(1)", "leave(1) = done", "leave(1) = throws.UnsupportedOperationException");
        run.due("leave(3) = done");
    }

    private static void promise18Book() {
        String sentence = "It gives back a BOOK that it has read";
        for (String n : new String[] {"0", "1", "-1", LEAST, GREATEST}) {
            Run.withGates(sentence, 1).due("read(1)", "read(1)", "change(1, " + n + ") = done").gate(1, 1, 0)
                    .due("change(1, " + n + ") = done").gate(1, 0, 0)
                    .due("change(1, " + n + ") = throws.UnsupportedOperationException", "enter(1) = true")
                    .due("change(1, " + n + ") = throws.UnsupportedOperationException").gate(1, -1, 0);
        }
    }

    private static void promise18Signal() {
        String sentence = "or all that wait for a SIGNAL are woken, in their order";
        for (String n : new String[] {"0", "1", "-1", LEAST, GREATEST}) {
            Run.withGates(sentence, 4).due("enter(0)", "enter(3)", "enter(0)", "enter(3)", "enter(0)", "enter(3)")
                    .gate(3, 0, 3).due("current() = 3", "change(3, " + n + ") = done").gate(3, 0, 0).gate(0, 1, 2)
                    .row(4, 0).outcome(0, 0, true, -1, false).due("task(1, 1) = 0", "task(2, 1) = 0", "leave(0)")
                    .row(4, 0, 1).due("leave(0)").row(4, 0, 1, 2).due("leave(0)").gate(0, 0, 0);
        }
        Run.withGates(sentence, 4).due("enter(0)", "enter(3)", "enter(0)", "enter(3)", "enter(0)", "giveWay() = 3")
                .due("enter(0) = false", "current() = 4", "change(3, 0)").gate(3, 0, 0).gate(0, 1, 3).row(2)
                .due("leave(0)").row(2, 3).due("leave(0)").row(2, 3, 0).due("leave(0)").row(2, 3, 0, 1);
    }

    private static void promise18Group() {
        String sentence = "or a GROUP's count grows by n (may be below 0; n counts for nothing else)";
        Run.withGates(sentence, 1).due("change(2, 1000000000) = done").gate(2, 1000000000, 0)
                .due("change(2, 1) = throws.UnsupportedOperationException", "change(2, 0) = done")
                .due("change(2, " + GREATEST + ") = throws.UnsupportedOperationException").gate(2, 1000000000, 0)
                .due("change(2, -1) = done", "change(2, 1) = done", "leave(2)", "change(2, 2) = throws.UnsupportedOperationException")
                .due("change(2, -999999999) = done").gate(2, 0, 0).due("enter(2) = true");
        String bounds = "the count would be below 0, or above 1000000000";
        Run.withGates(bounds, 1).due("change(2, -1) = throws.UnsupportedOperationException")
                .due("change(2, " + LEAST + ") = throws.UnsupportedOperationException")
                .due("change(2, 1000000001) = throws.UnsupportedOperationException")
                .due("change(2, " + GREATEST + ") = throws.UnsupportedOperationException").gate(2, 0, 0)
                .due("change(2, 3)", "enter(2) = false", "change(2, -4) = throws.UnsupportedOperationException")
                .due("change(2, 999999998) = throws.UnsupportedOperationException").gate(2, 3, 1).row()
                .due("change(2, 999999997) = done", "change(2, -1000000000) = done").gate(2, 0, 0).row(0);
    }

    private static void promise18Wrong() {
        String sentence = "Exceptions as for leave";
        Run run = Run.withGates(sentence, 1);
        for (String gate : NO_GATES) {
            run.due("change(" + gate + ", 1) = throws.IllegalArgumentException");
        }
        run.due("change(1, 1) = throws.UnsupportedOperationException").gate(1, 0, 0);
        Run.withGates("(UnsupportedOperationException: nobody reads; the count would be below 0, or above 1000000000)", 1)
                .due("change(1, 0) = throws.UnsupportedOperationException", "enter(1)")
                .due("change(1, 0) = throws.UnsupportedOperationException").gate(1, -1, 0).due("leave(1)", "read(1)")
                .due("change(1, 0) = done", "change(1, 0) = throws.UnsupportedOperationException").gate(1, 0, 0);
        Run others = Run.withGates("IllegalArgumentException for other gates, too.", 1);
        others.due("change(0, 1) = throws.IllegalArgumentException", "change(4, 1) = throws.IllegalArgumentException");
        others.due("enter(0)", "enter(4)", "change(0, 1) = throws.IllegalArgumentException");
        others.due("change(4, 0) = throws.IllegalArgumentException").gate(0, 1, 0).gate(4, 1, 0);
        Run[] runs = {Run.over(sentence), Run.blocked(sentence)};
        for (Run none : runs) {
            none.due("change(1, 1) = throws.IllegalStateException", "change(2, 1) = throws.IllegalStateException");
            none.due("change(2, -1) = throws.IllegalStateException", "change(3, 1) = throws.IllegalStateException");
            none.due("change(0, 1) = throws.IllegalArgumentException", "change(4, 1) = throws.IllegalArgumentException");
            none.due("change(5, 1) = throws.IllegalArgumentException").gate(2, 0, 0);
        }
    }

    private static void promise23() {
        String sentence = "1 whether it is taken (how many readers a BOOK has, -1 for a writer; the GROUP's count; "
                + "a DEED: 0 not yet, 1 being done, 2 done; 0 for a SIGNAL), 2 how many wait at it";
        Run.withGates(sentence, 2).gate(0, 0, 0).gate(1, 0, 0).gate(2, 0, 0).gate(3, 0, 0).gate(4, 0, 0)
                .due("enter(0)").gate(0, 1, 0).due("leave(0)").gate(0, 0, 0).due("read(1)", "read(1)").gate(1, 2, 0)
                .due("change(1, 0)", "change(1, 0)", "enter(1)").gate(1, -1, 0).due("change(2, 12)").gate(2, 12, 0)
                .due("enter(4)").gate(4, 1, 0).due("leave(4)").gate(4, 2, 0).due("enter(0)", "enter(3) = false")
                .gate(3, 0, 1).gate(0, 0, 0).due("enter(1) = false", "read(1) = false").gate(1, -1, 2);
    }

    private static void promise23Wrong() {
        new Run("NoSuchElementException: there is no such gate or what.").due("watch(0, 0) = throws.NoSuchElementException");
        Run run = Run.withGates("NoSuchElementException: there is no such gate or what.", 0);
        for (String gate : NO_GATES) {
            for (int what = 0; what < 3; what++) {
                run.due("watch(" + gate + ", " + what + ") = throws.NoSuchElementException");
            }
        }
        for (int gate = 0; gate < 5; gate++) {
            run.due("watch(" + gate + ", -1) = throws.NoSuchElementException");
            run.due("watch(" + gate + ", 3) = throws.NoSuchElementException");
            run.due("watch(" + gate + ", 0) = " + gate);
        }
        run.due("watch(0, " + LEAST + ") = throws.NoSuchElementException");
        run.due("watch(0, " + GREATEST + ") = throws.NoSuchElementException");
    }
}
