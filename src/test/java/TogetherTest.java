/** Promises 27 to 31, with parts 10 to 12 of the terms: accounts, events, changes of programs, all together. */
public final class TogetherTest {
    private static long sumOf(KernelWorks x) {
        long s = 7 * 31 + x.time();
        for (int m = 0; m < 3; m++) {
            s = s * 31 + (x.isUp(m) ? 1 : 0);
            for (int b = 0; b < 82; b++) {
                for (int c = 0; c < 8; c++) {
                    s = s * 31 + x.block(m, b, c);
                }
            }
            long busy = 0;
            for (int u = 0; u < 5; u++) {
                busy += x.account(m, u, 't');
            }
            s = s * 31 + busy;
            String shown = Check.shown(x, m);
            s = s * 31 + (shown.isEmpty() ? 0 : shown.charAt(shown.length() - 1));
            for (int t = 0; t < 14 && x.isUp(m); t++) {
                try {
                    s = s * 31 + x.thread(m, t, 'r');
                    for (int r = 0; r < 8; r++) {
                        s = s * 31 + x.register(m, t, r);
                    }
                } catch (IndexOutOfBoundsException e) {
                    s = s * 31 - 1;
                }
            }
            for (int p = 0; p < 10 && x.isUp(m); p++) {
                try {
                    s = s * 31 + 100 * x.process(m, p, 'v') + x.process(m, p, 'g');
                } catch (IndexOutOfBoundsException e) {
                    s = s * 31 - 1;
                }
            }
        }
        return s;
    }

    private static void sums() {
        KernelWorks x = new KernelWorks();
        Check.is("checksum", x.checksum(), sumOf(x));
        Check.program(x, 0, 2, 1, 1001, 3, 8, 0, 0, 0);
        x.spawn(1, 2, 0);
        x.spawn(0, 0, -1);
        x.login(2, 1);
        Check.type(x, 2, "echo hi\n");
        x.does(0, 0, 50, 0, 1, 7);
        x.step(50);
        Check.is("checksum", x.checksum(), sumOf(x));
        x.crash(0);
        Check.is("checksum", x.checksum(), sumOf(x));
        Check.is("isSound", x.isSound(), true);
        Check.is("isReplayed", x.isReplayed(), true);
        Check.is("isReplayed twice", x.isReplayed(), true);
        x.step(249);
        Check.is("at 300", x.time(), 300);
        Check.is("isReplayed", x.isReplayed(), true);
        x.step(1);
        Check.fails("isReplayed", Check.STATE, () -> x.isReplayed());
        KernelWorks y = new KernelWorks();
        for (int i = 0; i < 200; i++) {
            y.seed(i);
        }
        Check.is("200 calls", y.isReplayed(), true);
        Check.fails("seed", Check.ARGUMENT, () -> y.spawn(9, 0, 0));
        Check.is("one that throws is not told", y.isReplayed(), true);
        y.seed(1);
        Check.fails("201 calls", Check.STATE, () -> y.isReplayed());
    }

    private static void accounts() {
        KernelWorks x = new KernelWorks();
        Check.fails("busyShare", ArithmeticException.class, () -> x.busyShare(0));
        Check.fails("busyShare", Check.ARGUMENT, () -> x.busyShare(3));
        Check.program(x, 0, 8, 0, 0, 0);
        x.spawn(0, 3, 0);
        x.step(5);
        x.crash(0);
        x.step(2);
        Check.is("busyShare", x.busyShare(0), 5f / 7f);
        Check.is("busyShare", x.busyShare(1), 0.0);
        Check.is("account", x.account(0, 3, 't'), 5);
        Check.is("account", x.account(0, 0, 't'), 0);
        for (char what : "tfrwn".toCharArray()) {
            Check.is("account " + what, x.account(1, 1, what), 0);
        }
        Check.fails("account", Check.ARGUMENT, () -> x.account(0, 5, 't'));
        Check.fails("account", Check.ARGUMENT, () -> x.account(3, 0, 't'));
        Check.fails("account", Check.ARGUMENT, () -> x.account(0, 0, 'x'));
        Check.fails("isUp", Check.ARGUMENT, () -> x.isUp(3));
        Check.fails("isUp", Check.ARGUMENT, () -> x.isUp(-1));
        Check.is("isUp", x.isUp(0), false);
        Check.is("time", x.time(), 7);
    }

    private static void events() {
        KernelWorks x = new KernelWorks();
        x.step(3);
        x.spawn(2, 0, -1);
        Check.is("events", x.events(), 1);
        Check.is("clock", x.event(0, 't'), 3);
        Check.is("machine", x.event(0, 'm'), 2);
        Check.is("sign", x.event(0, 's'), 'p');
        Check.is("number", x.event(0, 'n'), 1);
        Check.fails("event", Check.NONE, () -> x.event(1, 't'));
        Check.fails("event", Check.NONE, () -> x.event(-1, 'x'));
        Check.fails("event", Check.ARGUMENT, () -> x.event(0, 'x'));
        for (int i = 0; i < 60; i++) {
            x.crash(1);
            x.boot(1);
        }
        Check.is("the last 100", x.events(), 100);
        Check.is("oldest", x.event(0, 's'), 'x');
        Check.is("latest", x.event(99, 's'), 'y');
        Check.fails("event", Check.NONE, () -> x.event(100, 't'));
    }

    private static void changes() {
        KernelWorks x = new KernelWorks();
        // 1 waits for calls; 2 divides by 0 as it starts; 3 has just a handler and waits.
        Check.program(x, 1, 28, 5, 2, 3, 45, 0, 0, 6, 8, 1, 0, 0, 30, 0, 0, 0);
        Check.program(x, 2, 13, 1, 0, 0, 33, 3, 0, 0, 5, 2, 1, 0, 8, 0, 0, 0);
        x.spawn(0, 0, 1);
        x.step(1);
        Check.is("it does not wait yet", x.upgrade(0, 1, 3), false);
        Check.is("another takes its place", x.upgrade(0, 1, 2), false);
        Check.is("version", x.process(0, 1, 'v'), 0);
        x.step(1);
        Check.is("behind the row", x.process(0, 1, 'g'), 2);
        Check.is("version", x.process(0, 1, 'v'), 1);
        Check.is("row", x.thread(0, 0, 'r'), 0);
        Check.is("register 7", x.register(0, 0, 7), 0);
        Check.is("register 5", x.register(0, 0, 5), -1);
        x.step(4);
        Check.is("not yet", x.process(0, 1, 'g'), 2);
        x.step(1);
        Check.is("taken back", x.process(0, 1, 'g'), 1);
        Check.is("version", x.process(0, 1, 'v'), 2);
        Check.is("register 7", x.register(0, 0, 7), -1);
        Check.is("row", x.thread(0, 0, 'r'), 0);
        Check.text("events", Check.events(x, 0), "p1 u1 s108 t1");
        x.step(3);
        Check.is("waits for calls", x.waits(0, 0, 's'), 'a');
        Check.is("at once", x.upgrade(0, 1, 2), true);
        Check.is("register 7", x.register(0, 0, 7), 2);
        Check.is("version", x.process(0, 1, 'v'), 3);
        x.spawn(0, 0, -1);
        Check.is("27 of another process is no fault of its own", x.does(0, 1, 27, 0, 1, 8), 0);
        Check.fails("ended", Check.INDEX, () -> x.process(0, 1, 'g'));
        // What signals do is as at first behind a change.
        KernelWorks w = new KernelWorks();
        Check.program(w, 1, 28, 0, 11, 0, 29, 0, 4, 0, 43, 1, 0, 0);
        w.spawn(0, 0, 1);
        w.spawn(0, 0, -1);
        w.step(3);
        Check.program(w, 2, 43, 1, 0, 0);
        Check.is("upgrade", w.upgrade(0, 1, 2), true);
        Check.is("the mask stays", w.process(0, 1, 'm'), 4);
        Check.is("27", w.does(0, 1, 27, 0, 1, 11), 0);
        Check.text("events", Check.events(w, 2), "u1 s111 e1139");
        // Behind 20 ticks it is not taken back.
        KernelWorks y = new KernelWorks();
        Check.program(y, 1, 43, 1, 0, 0);
        Check.program(y, 2, 33, 20, 0, 0, 99, 0, 0, 0);
        Check.program(y, 3, 33, 19, 0, 0, 99, 0, 0, 0);
        y.spawn(0, 0, 1);
        y.spawn(0, 0, 1);
        y.step(2);
        Check.is("upgrade", y.upgrade(0, 1, 2), true);
        Check.is("upgrade", y.upgrade(0, 2, 3), true);
        y.step(23);
        Check.text("events", Check.events(y, 2), "u1 u2 s104 e1132 s204 e2132");
        KernelWorks z = new KernelWorks();
        Check.program(z, 1, 43, 1, 0, 0);
        Check.program(z, 2, 33, 19, 0, 0, 99, 0, 0, 0);
        z.spawn(0, 0, 1);
        z.step(2);
        Check.is("upgrade", z.upgrade(0, 1, 2), true);
        z.step(20);
        Check.text("events", Check.events(z, 1), "u1 s104 t1");
        Check.is("time", z.event(2, 't'), 22);
    }

    private static void sound() {
        KernelWorks x = new KernelWorks();
        x.crash(0);
        x.spoil(0, 11, 0, 1);
        Check.is("one that is down does not count", x.isSound(), true);
        x.boot(0);
        Check.is("isSound", x.isSound(), true);
    }

    public static void main(String[] args) {
        sums();
        accounts();
        events();
        changes();
        sound();
        Check.end("TogetherTest");
    }
}
