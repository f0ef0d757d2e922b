/** Promise 14 and the first of 15, with part 4 of the terms: locks, queues, calls, deadlocks. */
public final class LocksTest {
    private static KernelWorks driven(int count) {
        KernelWorks x = new KernelWorks();
        for (int i = 0; i < count; i++) {
            x.spawn(0, 0, -1);
        }
        return x;
    }

    private static void locks() {
        KernelWorks x = driven(3);
        for (int op = 40; op <= 41; op++) {
            Check.is("no lock", x.does(0, 0, op, 0, 6, 0), -22);
            Check.is("no lock", x.does(0, 0, op, 0, -1, 0), -22);
        }
        Check.is("lock", x.lock(0, 5, 'h'), -1);
        Check.is("41", x.does(0, 0, 41, 0, 5, 0), -1);
        Check.is("40", x.does(0, 0, 40, 0, 5, 0), 0);
        Check.is("40", x.does(0, 0, 40, 0, 5, 0), -35);
        Check.is("lock", x.lock(0, 5, 'h'), 0);
        Check.is("41", x.does(0, 1, 41, 0, 5, 0), -1);
        x.tell(0, 1, 40, 1, 5, 0);
        x.tell(0, 2, 40, 1, 5, 0);
        x.step(2);
        Check.is("lock", x.lock(0, 5, 'w'), 2);
        Check.is("waits", x.waits(0, 1, 's'), 'l');
        Check.is("waits", x.waits(0, 1, 'n'), 5);
        Check.is("waits", x.waits(0, 1, 't'), 0);
        Check.is("41", x.does(0, 0, 41, 0, 5, 0), 0);
        x.step(2);
        Check.is("the first has it", x.lock(0, 5, 'h'), 1);
        Check.is("the other waits", x.lock(0, 5, 'w'), 1);
        Check.is("22", x.does(0, 1, 22, 0, 0, 0), -1001);
        Check.is("broken", x.lock(0, 5, 'b'), 1);
        Check.is("free", x.lock(0, 5, 'h'), -1);
        x.step(1);
        Check.is("R(a)", x.register(0, 2, 1), 1);
        Check.is("broken no more", x.lock(0, 5, 'b'), 0);
        Check.is("lock", x.lock(0, 5, 'h'), 2);
        // A thread that ends breaks its locks.
        KernelWorks y = driven(1);
        Check.program(y, 0, 24, 1, 3, 0, 33, 9, 0, 0, 40, 2, 0, 0, 40, 2, 0, 0, 33, 4, 0, 0, 26, 0, 0, 0);
        y.spawn(0, 0, 0);
        y.step(4);
        Check.is("lock", y.lock(0, 0, 'h'), 2);
        y.step(4);
        Check.is("broken", y.lock(0, 0, 'b'), 1);
        y.step(3);
        Check.is("R(a)", y.register(0, 1, 2), 1);
        Check.fails("lock", Check.ARGUMENT, () -> x.lock(0, 0, 'x'));
        Check.fails("lock", Check.ARGUMENT, () -> x.lock(3, 0, 'h'));
        Check.fails("lock", Check.INDEX, () -> x.lock(0, 6, 'h'));
        Check.fails("lock", Check.INDEX, () -> x.lock(0, -1, 'h'));
        x.crash(0);
        Check.fails("lock", Check.UNSUPPORTED, () -> x.lock(0, 6, 'h'));
        Check.fails("queue", Check.UNSUPPORTED, () -> x.queue(0, 6, 0));
        Check.fails("deadlocked", Check.UNSUPPORTED, () -> x.deadlocked(0));
        x.boot(0);
        Check.is("lock", x.lock(0, 5, 'h'), -1);
    }

    private static void queues() {
        KernelWorks x = driven(3);
        Check.is("no queue", x.does(0, 0, 42, 0, 4, 1), -22);
        Check.is("no queue", x.does(0, 0, 43, 0, -1, 0), -22);
        for (int i = 0; i < 3; i++) {
            Check.is("42", x.does(0, 0, 42, 0, 3, 10 + i), 0);
        }
        Check.is("queue", x.queue(0, 3, 0), 10);
        Check.is("queue", x.queue(0, 3, 2), 12);
        Check.fails("queue", Check.NONE, () -> x.queue(0, 3, 3));
        Check.fails("queue", Check.NONE, () -> x.queue(0, 3, -1));
        Check.fails("queue", Check.NONE, () -> x.queue(0, 0, 0));
        Check.fails("queue", Check.INDEX, () -> x.queue(0, 4, 0));
        Check.fails("queue", Check.ARGUMENT, () -> x.queue(3, 4, 0));
        x.tell(0, 0, 42, 0, 3, 13);
        x.tell(0, 1, 42, 0, 3, 14);
        x.step(2);
        Check.is("waits", x.waits(0, 1, 's'), 'q');
        Check.is("waits", x.waits(0, 1, 'n'), 3);
        Check.is("waits for no thread", x.waits(0, 1, 't'), -1);
        Check.is("43", x.does(0, 2, 43, 0, 3, 0), 10);
        x.step(2);
        Check.is("queue", x.queue(0, 3, 2), 13);
        Check.is("the other waits again", x.waits(0, 1, 's'), 'q');
        for (int i = 0; i < 4; i++) {
            Check.is("43", x.does(0, 2, 43, 0, 3, 0), 11 + i);
        }
        x.tell(0, 2, 43, 4, 0, 0);
        x.step(1);
        Check.is("waits", x.waits(0, 2, 'n'), 0);
        Check.is("42", x.does(0, 0, 42, 0, 0, 99), 0);
        x.step(1);
        Check.is("register", x.register(0, 2, 4), 99);
    }

    private static void calls() {
        KernelWorks x = driven(4);
        Check.is("44 to itself", x.does(0, 0, 44, 0, 1, 5), -3);
        Check.is("44 to 0", x.does(0, 0, 44, 0, 0, 5), -3);
        Check.is("44 to none", x.does(0, 0, 44, 0, 5, 5), -3);
        Check.is("44 to none", x.does(0, 0, 44, 0, 10, 5), -3);
        x.tell(0, 0, 45, 1, 0, 2);
        x.step(1);
        Check.is("waits", x.waits(0, 0, 's'), 'a');
        Check.is("waits", x.waits(0, 0, 'n'), 1);
        x.tell(0, 1, 44, 3, 1, 71);
        x.step(2);
        Check.is("value", x.register(0, 0, 1), 71);
        Check.is("who", x.register(0, 0, 2), 201);
        Check.is("waits", x.waits(0, 1, 's'), 'm');
        Check.is("waits", x.waits(0, 1, 'n'), 1);
        Check.is("waits", x.waits(0, 1, 't'), 0);
        x.tell(0, 2, 44, 3, 1, 72);
        x.step(1);
        Check.is("46 before it was taken", x.does(0, 0, 46, 0, 302, 5), -3);
        Check.is("46 of another process", x.does(0, 3, 46, 0, 201, 5), -3);
        Check.is("46", x.does(0, 0, 46, 0, 202, 5), -3);
        Check.is("46", x.does(0, 0, 46, 0, -201, 5), -3);
        Check.is("46", x.does(0, 0, 46, 0, 201, 88), 0);
        Check.is("46 twice", x.does(0, 0, 46, 0, 201, 89), -3);
        x.step(2);
        Check.is("answer", x.register(0, 1, 3), 88);
        Check.is("the other waits again", x.waits(0, 2, 's'), 'm');
        Check.is("45", x.does(0, 0, 45, 1, 0, 1), 302);
        // Who waits for an answer of one that ends, or in a call to it, gets -3.
        x.tell(0, 3, 44, 3, 1, 73);
        x.step(1);
        Check.is("22", x.does(0, 0, 22, 0, 0, 0), -1001);
        x.step(2);
        Check.is("taken", x.register(0, 2, 3), -3);
        Check.is("waiting", x.register(0, 3, 3), -3);
        // A call of a thread that is gone is gone.
        KernelWorks y = driven(3);
        y.tell(0, 0, 44, 3, 2, 1);
        y.step(1);
        Check.is("27", y.does(0, 2, 27, 0, 1, 3), 0);
        y.tell(0, 1, 45, 3, 0, 4);
        y.step(1);
        Check.is("waits", y.waits(0, 1, 's'), 'a');
    }

    private static void deadlocks() {
        KernelWorks x = driven(4);
        for (int t = 0; t < 3; t++) {
            Check.is("40", x.does(0, t, 40, 0, t, 0), 0);
        }
        x.tell(0, 0, 40, 0, 1, 0);
        x.tell(0, 3, 40, 0, 0, 0);
        x.step(2);
        Check.is("no ring", x.deadlocked(0), 0);
        x.tell(0, 1, 44, 0, 3, 0);
        x.step(1);
        Check.is("no ring", x.deadlocked(0), 0);
        x.tell(0, 2, 40, 0, 0, 0);
        x.step(1);
        Check.is("waits", x.waits(0, 1, 't'), 2);
        Check.is("a ring of three; who waits for it is not in it", x.deadlocked(0), 7);
        Check.fails("deadlocked", Check.ARGUMENT, () -> x.deadlocked(3));
    }

    public static void main(String[] args) {
        locks();
        queues();
        calls();
        deadlocks();
        Check.end("LocksTest");
    }
}
