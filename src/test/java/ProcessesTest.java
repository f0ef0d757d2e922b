/** Promises 9 to 11, with parts 1 and 2 of the terms: rows, processes, threads, who runs, signals. */
public final class ProcessesTest {
    private static KernelWorks driven() {
        KernelWorks x = new KernelWorks();
        x.spawn(0, 0, -1);
        return x;
    }

    private static void row(KernelWorks x, String what, int due, int op, int a, int b, int c) {
        Check.is(what, x.does(0, 0, op, a, b, c), due);
    }

    private static void arithmetic() {
        KernelWorks x = driven();
        row(x, "1", Integer.MIN_VALUE, 1, 0, Integer.MIN_VALUE, 0);
        row(x, "1", 7, 1, 1, 7, 0);
        row(x, "2", 10, 2, 2, 1001, 3);
        row(x, "2 wraps", Integer.MAX_VALUE, 2, 2, 1000, -1);
        row(x, "3", 4, 3, 2, 1001, 3);
        row(x, "4", -21, 4, 2, 1001, -3);
        row(x, "5", -3, 5, 2, -7, 2);
        row(x, "5", 3, 5, 2, 1001, 2);
        row(x, "5 wraps", Integer.MIN_VALUE, 5, 2, 1000, -1);
        row(x, "6", 1, 6, 2, -1, 0);
        row(x, "6", 0, 6, 2, 0, 0);
        row(x, "7", 1, 7, 2, 1001, 7);
        row(x, "7", 0, 7, 2, 1001, 8);
        row(x, "1008 is itself", 1008, 1, 2, 1008, 0);
        row(x, "999 is itself", 999, 1, 2, 999, 0);
        row(x, "12", 0, 12, 2, 0, 0);
        row(x, "12", 0, 12, 2, 64, 0);
        row(x, "12", 0, 12, 2, -1, 0);
        row(x, "13", 19, 13, 2, 0, 0);
        row(x, "14", '-', 14, 2, -120, 0);
        row(x, "14", '1', 14, 2, -120, 1);
        row(x, "14", '0', 14, 2, -120, 3);
        row(x, "14", 0, 14, 2, -120, 4);
        row(x, "14", '0', 14, 2, 0, 0);
        row(x, "14", 0, 14, 2, 0, 1);
        row(x, "14", '2', 14, 2, Integer.MIN_VALUE, 1);
        row(x, "14", '8', 14, 2, Integer.MIN_VALUE, 10);
        row(x, "14", '0', 14, 2, 10, 1);
        row(x, "14", 0, 14, 2, 10, 2);
        row(x, "14", 0, 14, 2, 5, -1);
        row(x, "14", 0, 14, 2, 5, Integer.MIN_VALUE);
        row(x, "14", 0, 14, 2, -5, Integer.MAX_VALUE);
        row(x, "34", 1, 34, 2, 0, 0);
        row(x, "34", 0, 34, 2, 1, 0);
        row(x, "34", 0, 34, 2, 2, 0);
        row(x, "34", 0, 34, 2, 3, 0);
        row(x, "34", 0, 34, 2, 4, 0);
        row(x, "34", -22, 34, 2, 5, 0);
        row(x, "35", 8, 35, 2, 3, 0);
        row(x, "35", 3, 35, 2, 8, 0);
        row(x, "35", -22, 35, 2, 9, 0);
        row(x, "35", -22, 35, 2, -1, 0);
        row(x, "29", 0, 29, 2, -1, 0);
        Check.is("mask", x.process(0, 1, 'm'), 0xFFE - 8 - 512);
        row(x, "masked fault", 5, 1, 2, 5, 0);
        row(x, "5 by 0 leaves R(a)", 5, 5, 2, 7, 0);
        Check.is("pending", x.process(0, 1, 'w'), 256);
        row(x, "unmasked it ends the process", -1001, 29, 2, 0, 0);
        Check.is("ended by 8", x.event(x.events() - 1, 'n'), 1136);
    }

    private static void jumps() {
        KernelWorks x = new KernelWorks();
        Check.program(x, 0, 1, 1, 5, 0, 9, 1001, 3, 0, 22, 9, 0, 0, 9, 0, 1, 0, 8, 7, 0, 0);
        x.spawn(0, 0, 0);
        int[] rows = {1, 3, 4, 7, 7};
        for (int i = 0; i < 4; i++) {
            x.step(1);
            Check.is("row", x.thread(0, 0, 'r'), rows[i]);
        }
        x.step(1);
        Check.text("a number that is no row", Check.events(x, 0), "p1 s104 e1132");
        x.spawn(0, 0, 1);
        x.step(1);
        Check.text("at the number of rows it ends", Check.events(x, 3), "p1 e1000");
    }

    private static void whoRuns() {
        KernelWorks x = new KernelWorks();
        Check.program(x, 0, 8, 0, 0, 0);
        x.spawn(0, 0, 0);
        x.spawn(0, 0, 0);
        int[] due = {0, 0, 0, 1, 1, 1, 0, 0, 0, 1, 1, 1};
        for (int t : due) {
            x.step(1);
            Check.is("ran", x.ran(0), t);
        }
        Check.is("load", x.load(0, 0), 12);
        Check.is("ticks", x.process(0, 1, 't'), 6);
        x.step(19);
        Check.is("load", x.load(0, 0), 31);
        x.step(1);
        Check.is("load is halved ahead of the run", x.load(0, 0), 16);

        KernelWorks y = new KernelWorks();
        Check.program(y, 0, 8, 0, 0, 0);
        y.user(2, 0, 2, 40, 20);
        y.spawn(0, 1, 0);
        y.spawn(0, 2, 0);
        int[] users = {0, 0, 0, 1, 1, 1, 1, 1, 1, 0, 0, 0, 1};
        for (int t : users) {
            y.step(1);
            Check.is("by load and share", y.ran(0), t);
        }
        Check.is("load", y.load(0, 1), 6);
        Check.is("load", y.load(0, 2), 7);
        Check.is("account", y.account(0, 2, 't'), 7);

        // The lowest of several users with the same load, whatever the numbers of their threads.
        KernelWorks v = new KernelWorks();
        Check.program(v, 0, 8, 0, 0, 0);
        v.spawn(0, 3, 0);
        v.spawn(0, 1, 0);
        v.spawn(0, 2, 0);
        int[] lowest = {1, 1, 1, 2, 2, 2, 0, 0, 0, 1, 1, 1, 2};
        for (int t : lowest) {
            v.step(1);
            Check.is("the lowest user", v.ran(0), t);
        }
        // One that goes on becomes ready anew: it is chosen behind another one.
        KernelWorks u = driven();
        Check.program(u, 0, 8, 0, 0, 0);
        u.spawn(0, 1, 0);
        u.spawn(0, 1, 0);
        u.step(1);
        Check.is("ran", u.ran(0), 1);
        row(u, "27", 0, 27, 0, 2, 9);
        u.step(1);
        Check.is("the other one", u.ran(0), 2);
        row(u, "27", 0, 27, 0, 2, 10);
        int first = u.ran(0);
        u.step(1);
        Check.is("the driven one ran", first, 0);
        Check.is("its load is greater", u.ran(0), 2);

        // A greater priority goes ahead; the ticks count a quarter.
        KernelWorks z = new KernelWorks();
        Check.program(z, 0, 8, 0, 0, 0);
        Check.program(z, 1, 32, 0, 7, 0, 8, 1, 0, 0);
        z.spawn(0, 0, 1);
        z.spawn(0, 0, 0);
        for (int i = 0; i < 12; i++) {
            z.step(1);
            Check.is("the greater rank", z.ran(0), 0);
        }
        Check.is("priority", z.process(0, 1, 'r'), 7);
        z.step(1);
        Check.is("4 + 13 / 4 is as much as 7, and was ready first", z.ran(0), 1);
        z.step(3);
        Check.is("7 + (16 - 12) / 4 against 4", z.ran(0), 0);
        Check.fails("load", Check.ARGUMENT, () -> z.load(0, 5));
        Check.fails("load", Check.ARGUMENT, () -> z.load(3, 0));
        Check.fails("ran", Check.ARGUMENT, () -> z.ran(-1));
        z.crash(0);
        Check.fails("load", Check.UNSUPPORTED, () -> z.load(0, 0));
        Check.fails("ran", Check.UNSUPPORTED, () -> z.ran(0));
        z.boot(0);
        Check.is("ran behind a start", z.ran(0), -1);
        Check.is("load behind a start", z.load(0, 0), 0);
    }

    private static void children() {
        KernelWorks x = new KernelWorks();
        // The parent gets 1, waits for the child, that sleeps and ends with 300.
        Check.program(x, 0, 20, 0, 0, 0, 9, 1000, 4, 0, 33, 5, 0, 0, 22, 300, 0, 0, 23, 1, 0, 0, 23, 2, 0, 0,
            33, 50, 0, 0);
        x.spawn(0, 2, 0);
        x.step(1);
        Check.is("child", x.process(0, 2, 'p'), 1);
        Check.is("user", x.process(0, 2, 'u'), 2);
        Check.is("children", x.process(0, 1, 'c'), 1);
        Check.is("children of 0", x.process(0, 0, 'c'), 1);
        Check.is("R(a)", x.register(0, 0, 0), 2);
        Check.is("R(a) in the child", x.register(0, 1, 0), 0);
        Check.is("row of the child", x.thread(0, 1, 'r'), 1);
        x.step(5);
        Check.is("waits for children", x.waits(0, 0, 's'), 'c');
        Check.is("waits for children", x.waits(0, 0, 'n'), 1);
        Check.is("waits for no thread", x.waits(0, 0, 't'), -1);
        x.step(10);
        Check.is("R(a)", x.register(0, 0, 1), 2044);
        Check.is("without children", x.register(0, 0, 2), -10);
        Check.text("events", Check.events(x, 0), "p1 p2 e2044");

        // A child that ended stays till it is taken.
        KernelWorks y = driven();
        row(y, "20", 2, 20, 3, 0, 0);
        Check.is("a driven child waits", y.waits(0, 1, 's'), 'h');
        Check.is("22", y.does(0, 1, 22, 7, 0, 0), -1001);
        Check.is("state", y.process(0, 2, 's'), 2);
        Check.is("value", y.process(0, 2, 'x'), 7);
        Check.is("threads", y.process(0, 2, 'h'), 0);
        Check.fails("value", Check.NONE, () -> y.process(0, 1, 'x'));
        Check.is("27 to one that ended", y.does(0, 0, 27, 1, 2, 9), -3);
        row(y, "20", 3, 20, 3, 0, 0);
        Check.is("-256 is 0", y.does(0, 1, 22, -256, 0, 0), -1001);
        row(y, "23 takes the lowest", 2007, 23, 0, 0, 0);
        row(y, "23", 3000, 23, 0, 0, 0);
        row(y, "23", -10, 23, 0, 0, 0);
        // Children of one that ends become those of 0; those that had ended are gone.
        row(y, "20", 2, 20, 3, 0, 0);
        Check.is("20", y.does(0, 1, 20, 3, 0, 0), 3);
        Check.is("20", y.does(0, 1, 20, 3, 0, 0), 4);
        Check.is("22", y.does(0, 3, 22, 1, 0, 0), -1001);
        Check.is("22", y.does(0, 1, 22, 1, 0, 0), -1001);
        Check.is("parent", y.process(0, 3, 'p'), 0);
        Check.fails("gone", Check.INDEX, () -> y.process(0, 4, 'p'));
        Check.is("ended", y.process(0, 2, 's'), 2);
        for (int p = 5; p <= 10; p++) {
            row(y, "20", p == 5 ? 4 : p - 1, 20, 3, 0, 0);
        }
        row(y, "20 without a number", -23, 20, 3, 0, 0);
    }

    private static void threads() {
        KernelWorks x = new KernelWorks();
        // 24 -> thread 1 at row 3; it ends with 77; the first joins it; join again -3; the last end ends the process.
        Check.program(x, 0, 24, 1, 3, 0, 25, 2, 1001, 0, 8, 5, 0, 0, 33, 4, 0, 0, 26, 77, 0, 0, 25, 3, 1001, 0,
            24, 4, 99, 0, 25, 5, 0, 0, 26, -1, 0, 0);
        x.spawn(0, 0, 0);
        x.step(2);
        Check.is("R(a)", x.register(0, 0, 1), 1);
        Check.is("registers as they were", x.register(0, 1, 1), 0);
        Check.is("row", x.thread(0, 1, 'r'), 3);
        Check.is("process", x.thread(0, 1, 'p'), 1);
        x.step(1);
        Check.is("waits", x.waits(0, 0, 's'), 'j');
        Check.is("waits", x.waits(0, 0, 'n'), 1);
        Check.is("waits", x.waits(0, 0, 't'), 1);
        Check.is("threads", x.process(0, 1, 'h'), 2);
        x.step(12);
        Check.text("events", Check.events(x, 0), "p1 e1255");
        KernelWorks y = new KernelWorks();
        Check.program(y, 0, 24, 1, 2, 0, 33, 20, 0, 0, 26, 300, 0, 0);
        y.spawn(0, 0, 0);
        y.step(5);
        Check.is("state", y.thread(0, 1, 's'), 2);
        Check.is("value", y.thread(0, 1, 'v'), 300);
        Check.is("state", y.thread(0, 0, 's'), 1);
        Check.fails("value", Check.NONE, () -> y.thread(0, 0, 'v'));
        Check.fails("thread", Check.ARGUMENT, () -> y.thread(0, 0, 'x'));
        Check.fails("thread", Check.ARGUMENT, () -> y.thread(3, 0, 'p'));
        Check.fails("thread", Check.INDEX, () -> y.thread(0, 2, 'p'));
        Check.fails("thread", Check.INDEX, () -> y.thread(0, -1, 'p'));
        Check.fails("register", Check.INDEX, () -> y.register(0, 2, 0));
        Check.fails("register", Check.INDEX, () -> y.register(0, 0, 8));
        Check.fails("register", Check.INDEX, () -> y.register(0, 0, -1));
        Check.fails("register", Check.ARGUMENT, () -> y.register(3, 0, 0));
        Check.fails("waits", Check.NONE, () -> y.waits(0, 1, 's'));
        Check.fails("waits", Check.INDEX, () -> y.waits(0, 2, 's'));
        Check.fails("waits", Check.ARGUMENT, () -> y.waits(0, 0, 'x'));
        Check.is("waits", y.waits(0, 0, 's'), 't');
        Check.is("waits", y.waits(0, 0, 'n'), 0);
        Check.fails("process", Check.ARGUMENT, () -> y.process(0, 1, 'z'));
        Check.fails("process", Check.ARGUMENT, () -> y.process(3, 1, 'p'));
        Check.fails("process", Check.INDEX, () -> y.process(0, 2, 'p'));
        Check.fails("process", Check.INDEX, () -> y.process(0, 10, 'p'));
        y.crash(0);
        Check.fails("process", Check.UNSUPPORTED, () -> y.process(0, 0, 'p'));
        Check.fails("thread", Check.UNSUPPORTED, () -> y.thread(0, 0, 'p'));
        Check.fails("register", Check.UNSUPPORTED, () -> y.register(0, 0, 0));
        Check.fails("waits", Check.UNSUPPORTED, () -> y.waits(0, 0, 's'));
        // 21: other threads are gone, registers are 0, the rest stays.
        KernelWorks z = new KernelWorks();
        Check.program(z, 0, 24, 1, 0, 0, 29, 0, 6, 0, 32, 0, 2, 0, 21, 0, 1, 0);
        Check.program(z, 1, 33, 90, 0, 0);
        z.spawn(0, 0, 0);
        z.step(10);
        Check.is("threads", z.process(0, 1, 'h'), 1);
        Check.is("program", z.process(0, 1, 'g'), 1);
        Check.is("mask", z.process(0, 1, 'm'), 6);
        Check.is("priority", z.process(0, 1, 'r'), 2);
        z.spawn(0, 0, -1);
        Check.is("21", z.does(0, 1, 21, 5, 28, 0), -22);
        Check.is("21", z.does(0, 1, 21, 5, -1, 0), -22);
    }

    private static void moreThreads() {
        KernelWorks x = new KernelWorks();
        // At the number of rows a thread may be made; it ends.
        Check.program(x, 0, 24, 1, 3, 0, 25, 2, 1001, 0, 33, 30, 0, 0);
        x.spawn(0, 0, 0);
        x.step(2);
        Check.is("R(a)", x.register(0, 0, 1), 1);
        x.step(3);
        Check.is("its number is free", x.register(0, 0, 2), 0);
        Check.fails("gone", Check.INDEX, () -> x.thread(0, 1, 'p'));
        Check.program(x, 1, 24, 1, 3, 0, 24, 1, -1, 0);
        x.spawn(0, 0, 1);
        x.step(1);
        Check.is("24", x.register(0, 1, 1), -22);
        x.step(1);
        Check.is("24", x.register(0, 1, 1), -22);
        // Who reads a block that is not held cannot be interrupted.
        KernelWorks y = driven();
        Check.program(y, 1, 28, 0, 11, 3, 50, 0, 1, 1, 52, 1, 0, 2, 43, 3, 0, 0, 8, 3, 0, 0);
        row(y, "50", 0, 50, 0, 1, 7);
        row(y, "53", 1, 53, 1, 0, 65);
        row(y, "64", 0, 64, 1, 0, 0);
        y.step(60);
        y.crash(0);
        y.boot(0);
        y.spawn(0, 0, 1);
        y.spawn(0, 0, -1);
        y.step(3);
        Check.is("waits", y.waits(0, 0, 's'), 'b');
        Check.is("27", y.does(0, 1, 27, 0, 1, 11), 0);
        Check.is("waits", y.waits(0, 0, 's'), 'b');
        Check.is("pending", y.process(0, 1, 'w'), 1 << 11);
        y.step(8);
        Check.is("told for the signal ahead of the row", y.register(0, 0, 2), 0);
        Check.is("at the row for it", y.waits(0, 0, 's'), 'q');
        // In 52 R(c) becomes -4, and R(a) stays.
        KernelWorks z = driven();
        Check.program(z, 1, 28, 0, 11, 5, 66, 0, 0, 0, 1, 3, 9, 0, 52, 3, 0, 4, 33, 90, 0, 0, 30, 0, 0, 0);
        z.spawn(0, 0, 1);
        z.step(4);
        Check.is("waits", z.waits(0, 1, 's'), 'p');
        row(z, "27", 0, 27, 0, 2, 11);
        Check.is("R(a)", z.register(0, 1, 3), 9);
        Check.is("R(c)", z.register(0, 1, 4), -4);
        Check.is("row", z.thread(0, 1, 'r'), 4);
        // In what a signal began another one waits; a new program forgets the rows of signals.
        KernelWorks w = driven();
        Check.program(w, 1, 28, 0, 11, 2, 43, 0, 0, 0, 33, 5, 0, 0, 21, 0, 2, 0);
        w.spawn(0, 0, 1);
        w.step(3);
        row(w, "27", 0, 27, 0, 2, 11);
        w.step(2);
        row(w, "27", 0, 27, 0, 2, 11);
        Check.is("pending", w.process(0, 2, 'w'), 1 << 11);
        w.step(9);
        Check.text("events", Check.events(w, 2), "s211 s211 s211 e2139");
    }

    private static void signals() {
        KernelWorks x = driven();
        Check.program(x, 1, 28, 1, 11, 4, 43, 2, 0, 0, 8, 1, 0, 0, 0, 0, 0, 0, 2, 5, 1005, 1, 30, 0, 0, 0);
        x.spawn(0, 1, 1);
        x.step(3);
        Check.is("waits", x.waits(0, 1, 's'), 'q');
        row(x, "27", 0, 27, 0, 2, 11);
        Check.is("-4", x.register(0, 1, 2), -4);
        Check.is("row", x.thread(0, 1, 'r'), 2);
        Check.is("pending", x.process(0, 2, 'w'), 1 << 11);
        x.step(1);
        Check.is("the row told for the signal", x.register(0, 1, 5), 1);
        Check.is("pending", x.process(0, 2, 'w'), 0);
        x.step(1);
        Check.is("30", x.thread(0, 1, 'r'), 2);
        x.step(2);
        Check.is("waits again", x.waits(0, 1, 's'), 'q');
        row(x, "27", -22, 27, 0, 2, 12);
        row(x, "27", -22, 27, 0, 2, 0);
        row(x, "27", -3, 27, 0, 3, 1);
        row(x, "27", -3, 27, 0, 0, 1);
        row(x, "27", -3, 27, 0, 10, 1);
        row(x, "27", -22, 27, 0, 10, 99);
        // 9 stops, 10 goes on, by 5 nothing happens.
        int before = x.events();
        row(x, "27", 0, 27, 0, 2, 5);
        row(x, "27", 0, 27, 0, 2, 10);
        row(x, "27", 0, 27, 0, 2, 9);
        Check.is("stopped", x.process(0, 2, 's'), 1);
        row(x, "27", 0, 27, 0, 2, 9);
        row(x, "27", 0, 27, 0, 2, 10);
        Check.is("goes on", x.process(0, 2, 's'), 0);
        row(x, "27", 0, 27, 0, 2, 3);
        Check.text("events", Check.events(x, before), "s209 s210 s203 e2131");
        // Another user may not, unless it is 0.
        KernelWorks y = new KernelWorks();
        y.spawn(0, 1, -1);
        y.spawn(0, 2, -1);
        y.spawn(0, 0, -1);
        Check.is("27", y.does(0, 0, 27, 0, 2, 2), -1);
        Check.is("27", y.does(0, 0, 27, 0, 3, 2), -1);
        Check.is("27", y.does(0, 2, 27, 0, 2, 2), 0);
        Check.text("events", Check.events(y, 3), "s202 e2130");
        Check.is("32", y.does(0, 0, 32, 0, 5, 0), -1);
        Check.is("32", y.does(0, 0, 32, 0, 8, 0), -22);
        Check.is("32", y.does(0, 0, 32, 0, 3, 0), 4);
        Check.is("32", y.does(0, 0, 32, 0, 4, 0), -1);
        Check.is("32", y.does(0, 2, 32, 0, 7, 0), 4);
        // 28.
        KernelWorks z = new KernelWorks();
        Check.program(z, 0, 28, 0, 3, 0, 28, 1, 9, 0, 28, 2, 12, 0, 28, 3, 2, 9, 28, 4, 2, -3, 28, 5, 2, 8,
            28, 6, 2, -2, 28, 7, 2, -1);
        z.spawn(0, 0, 0);
        z.step(8);
        int[] due = {-22, -22, -22, -22, -22, -1, 8, -2};
        for (int r = 0; r < 8; r++) {
            Check.is("28 in row " + r, z.register(0, 0, r), due[r]);
        }
    }

    private static void childSignals() {
        // The parent has a row for 5, and waits at a queue: it gives that up as its child ends.
        KernelWorks x = new KernelWorks();
        Check.program(x, 0, 28, 0, 5, 7, 20, 1, 0, 0, 9, 1001, 5, 0, 33, 9, 0, 0, 22, 1, 0, 0, 43, 2, 0, 0,
            33, 90, 0, 0, 23, 3, 0, 0, 30, 0, 0, 0);
        x.spawn(0, 0, 0);
        x.step(9);
        Check.is("waits", x.waits(0, 0, 's'), 'q');
        x.step(10);
        Check.is("-4", x.register(0, 0, 2), -4);
        Check.is("the child", x.register(0, 0, 3), 2001);
        Check.is("sleeps", x.waits(0, 0, 's'), 't');
        Check.text("events", Check.events(x, 0), "p1 p2 e2001 s105");
        // What a process that is stopped is told waits for 10; its parent's wait for children ends as it stops.
        KernelWorks y = driven();
        row(y, "20", 2, 20, 0, 0, 0);
        y.tell(0, 0, 23, 1, 0, 0);
        y.step(1);
        Check.is("waits", y.waits(0, 0, 's'), 'c');
        int ticks = y.process(0, 1, 't');
        y.spawn(0, 0, -1);
        Check.is("27", y.does(0, 2, 27, 0, 2, 9), 0);
        y.step(1);
        Check.is("it looked", y.process(0, 1, 't'), ticks + 1);
        Check.is("waits again", y.waits(0, 0, 's'), 'c');
        Check.is("stopped", y.does(0, 1, 1, 4, 5, 0), -1000);
        Check.is("27", y.does(0, 2, 27, 0, 2, 10), 0);
        y.step(1);
        Check.is("done", y.register(0, 1, 4), 5);
    }

    private static void alarmsAndMasks() {
        KernelWorks x = driven();
        row(x, "31", 0, 31, 0, 20, 0);
        row(x, "31", 19, 31, 0, 5, 0);
        row(x, "31", -22, 31, 0, -1, 0);
        row(x, "31", 3, 31, 0, 0, 0);
        row(x, "31", 0, 31, 0, Integer.MAX_VALUE, 0);
        row(x, "31", Integer.MAX_VALUE - 1, 31, 0, 3, 0);
        x.step(2);
        Check.is("not yet", x.process(0, 1, 's'), 0);
        x.step(1);
        Check.text("alarm", Check.events(x, 0), "p1 s107 e1135");
        // A signal that waits once, and is sent as it is not masked any more; the lowest first.
        KernelWorks y = driven();
        y.spawn(0, 0, -1);
        row(y, "29", 0, 29, 0, 6, 0);
        Check.is("27", y.does(0, 1, 27, 0, 1, 2), 0);
        Check.is("27", y.does(0, 1, 27, 0, 1, 2), 0);
        Check.is("27", y.does(0, 1, 27, 0, 1, 1), 0);
        Check.is("pending", y.process(0, 1, 'w'), 6);
        Check.text("waits once", Check.events(y, 2), "s102 s101");
        row(y, "29", -1001, 29, 0, 0, 0);
        Check.text("the lowest first", Check.events(y, 4), "s101 e1129");
        // One that sleeps just becomes ready; 5 interrupts who waits for something else.
        KernelWorks z = driven();
        Check.program(z, 1, 28, 0, 7, 3, 31, 0, 4, 0, 33, 50, 0, 0, 1, 6, 9, 0, 30, 0, 0, 0);
        z.spawn(0, 0, 1);
        z.step(6);
        Check.is("alarm", z.register(0, 1, 6), 9);
        Check.is("not -4", z.register(0, 1, 0), 0);
        z.step(1);
        Check.is("row", z.thread(0, 1, 'r'), 3);
        z.step(2);
        Check.text("30 is ill without a signal", Check.events(z, 2), "s207 s204 e2132");
    }

    public static void main(String[] args) {
        arithmetic();
        jumps();
        whoRuns();
        children();
        threads();
        moreThreads();
        signals();
        childSignals();
        alarmsAndMasks();
        Check.end("ProcessesTest");
    }
}
