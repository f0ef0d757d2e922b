/** Promises 1 to 8: a new object, and what is told. */
public final class ToldTest {
    private static void newObject() {
        KernelWorks x = new KernelWorks();
        for (int m = 0; m < 3; m++) {
            Check.is("isUp", x.isUp(m), true);
            Check.is("ran", x.ran(m), -1);
            Check.is("faults", x.faults(m), 0);
            int[] root = {2, 493, 0, 1, 0, 0, 0, 0};
            int[] map = {0, 0, 1, 100, 0, 0, 0, 0};
            for (int c = 0; c < 8; c++) {
                Check.is("inode 0", x.inode(m, 0, c), root[c]);
                Check.is("block 10", x.block(m, 10, c), root[c]);
                Check.is("block 0", x.block(m, 0, c), map[c]);
                Check.is("block 1", x.block(m, 1, c), 0);
            }
            Check.is("process 0 program", x.process(m, 0, 'g'), -1);
            Check.is("process 0 parent", x.process(m, 0, 'p'), 0);
            Check.is("process 0 priority", x.process(m, 0, 'r'), 4);
            Check.is("process 0 limit", x.process(m, 0, 'l'), 8);
            Check.is("process 0 threads", x.process(m, 0, 'h'), 0);
            Check.is("process 0 children", x.process(m, 0, 'c'), 0);
            Check.fails("thread 0", Check.INDEX, () -> x.thread(0, 0, 'p'));
        }
        Check.is("time", x.time(), 0);
        Check.is("events", x.events(), 0);
        Check.is("isSound", x.isSound(), true);
    }

    private static void rowsAndUsers() {
        KernelWorks x = new KernelWorks();
        Check.is("rows", x.rows(0, 0, 1, 0, 5, 0, 2, 1, 1000, 1), 2);
        Check.is("rows in place", x.rows(0, 0, 1, 0, 6, 0, -1, 0, 0, 0), 2);
        Check.is("rows behind", x.rows(0, 2, 22, 1001, 0, 0, -1, 7, 7, 7), 3);
        Check.is("rows over the end", x.rows(0, 2, 0, 0, 0, 0, 22, 1001, 0, 0), 4);
        Check.fails("rows", Check.ARGUMENT, () -> x.rows(16, 0, 0, 0, 0, 0, -1, 0, 0, 0));
        Check.fails("rows", Check.ARGUMENT, () -> x.rows(-1, 0, 0, 0, 0, 0, -1, 0, 0, 0));
        Check.fails("rows", Check.ARGUMENT, () -> x.rows(0, 99, 100, 0, 0, 0, -1, 0, 0, 0));
        Check.fails("rows", Check.ARGUMENT, () -> x.rows(0, 0, -1, 0, 0, 0, -1, 0, 0, 0));
        Check.fails("rows", Check.ARGUMENT, () -> x.rows(0, 0, 0, 0, 0, 0, -2, 0, 0, 0));
        Check.fails("rows", Check.ARGUMENT, () -> x.rows(0, 0, 0, 0, 0, 0, 100, 0, 0, 0));
        Check.fails("rows", Check.INDEX, () -> x.rows(0, 5, 0, 0, 0, 0, -1, 0, 0, 0));
        Check.fails("rows", Check.INDEX, () -> x.rows(0, -1, 0, 0, 0, 0, -1, 0, 0, 0));
        for (int i = 4; i < 22; i += 2) {
            Check.is("rows", x.rows(0, i, 0, 0, 0, 0, 0, 0, 0, 0), i + 2);
        }
        Check.is("rows", x.rows(0, 22, 0, 0, 0, 0, -1, 0, 0, 0), 23);
        Check.fails("rows", Check.STATE, () -> x.rows(0, 23, 0, 0, 0, 0, 0, 0, 0, 0));
        Check.is("rows", x.rows(0, 22, 0, 0, 0, 0, 0, 0, 0, 0), 24);
        Check.fails("rows", Check.STATE, () -> x.rows(0, 24, 0, 0, 0, 0, -1, 0, 0, 0));
        Check.fails("rows", Check.INDEX, () -> x.rows(0, 25, 0, 0, 0, 0, -1, 0, 0, 0));
        // The program does what was told last: 6 and 1 are 7.
        x.spawn(0, 0, 0);
        x.step(2);
        Check.is("register", x.register(0, 0, 1), 7);
        Check.is("user", x.user(1, 7, 9, 0, 0), 1);
        Check.is("user", x.user(1, 0, 2, 40, 20), 9);
        int[][] bad = {{-1, 0, 1, 0, 0}, {5, 0, 1, 0, 0}, {0, -1, 1, 0, 0}, {0, 8, 1, 0, 0}, {0, 0, 0, 0, 0},
            {0, 0, 10, 0, 0}, {0, 0, 1, -1, 0}, {0, 0, 1, 41, 0}, {0, 0, 1, 0, -1}, {0, 0, 1, 0, 21}};
        for (int[] b : bad) {
            Check.fails("user", Check.ARGUMENT, () -> x.user(b[0], b[1], b[2], b[3], b[4]));
        }
    }

    private static void links() {
        KernelWorks x = new KernelWorks();
        Check.is("link", x.link(0, 1, 9, 0, 0), 3);
        Check.is("link", x.link(1, 0, 1, 9, 9), 9);
        Check.is("link", x.link(2, 1, 2, 0, 0), 3);
        Check.is("link", x.link(0, 2, 2, 0, 0), 3);
        int[][] bad = {{-1, 0, 3, 0, 0}, {0, 3, 3, 0, 0}, {0, 1, 0, 0, 0}, {0, 1, 10, 0, 0}, {0, 1, 3, -1, 0},
            {0, 1, 3, 10, 0}, {0, 1, 3, 0, -1}, {0, 1, 3, 0, 10}, {1, 1, 3, 0, 10}};
        for (int[] b : bad) {
            Check.fails("link", Check.ARGUMENT, () -> x.link(b[0], b[1], b[2], b[3], b[4]));
        }
        Check.fails("link", Check.UNSUPPORTED, () -> x.link(2, 2, 3, 0, 0));
        Check.is("cut", x.cut(0, 1, true), false);
        Check.is("cut", x.cut(1, 0, true), true);
        Check.is("cut", x.cut(0, 1, false), true);
        Check.is("cut", x.cut(0, 2, false), false);
        Check.fails("cut", Check.ARGUMENT, () -> x.cut(3, 0, true));
        Check.fails("cut", Check.ARGUMENT, () -> x.cut(0, -1, true));
        Check.fails("cut", Check.UNSUPPORTED, () -> x.cut(1, 1, true));
        Check.is("seed", x.seed(Integer.MIN_VALUE), 0);
        Check.is("seed", x.seed(5), Integer.MIN_VALUE);
    }

    private static void spawns() {
        KernelWorks x = new KernelWorks();
        for (int p = 1; p < 10; p++) {
            Check.is("spawn", x.spawn(0, p % 5, p - 2), p);
        }
        Check.fails("spawn", Check.STATE, () -> x.spawn(0, 0, -1));
        Check.is("spawn", x.spawn(1, 4, 15), 1);
        Check.fails("spawn", Check.ARGUMENT, () -> x.spawn(3, 0, -1));
        Check.fails("spawn", Check.ARGUMENT, () -> x.spawn(0, 5, -1));
        Check.fails("spawn", Check.ARGUMENT, () -> x.spawn(0, 0, 16));
        Check.fails("spawn", Check.ARGUMENT, () -> x.spawn(0, 0, -2));
        x.crash(2);
        Check.fails("spawn", Check.UNSUPPORTED, () -> x.spawn(2, 0, -1));
        Check.is("user", x.process(0, 3, 'u'), 3);
        Check.is("program", x.process(0, 3, 'g'), 1);
        Check.is("parent", x.process(0, 3, 'p'), 0);
        Check.is("limit", x.process(0, 3, 'l'), 8);
        // 13 threads of one process, and one of another: there is a process, but no thread.
        KernelWorks y = new KernelWorks();
        Check.program(y, 0, 24, 0, 0, 0, 8, 0, 0, 0);
        y.spawn(0, 0, 0);
        y.step(60);
        Check.is("threads", y.process(0, 1, 'h'), 14);
        Check.fails("spawn", Check.STATE, () -> y.spawn(0, 0, -1));
        Check.fails("login", Check.STATE, () -> y.login(0, 0));
    }

    private static void tells() {
        KernelWorks x = new KernelWorks();
        x.spawn(0, 0, -1);
        x.spawn(0, 0, 0);
        Check.is("tell", x.tell(0, 0, 1, 3, 9, 0), 0);
        Check.fails("tell again", Check.STATE, () -> x.tell(0, 0, 1, 3, 9, 0));
        Check.fails("does again", Check.STATE, () -> x.does(0, 0, 1, 3, 9, 0));
        x.step(2);
        Check.is("register", x.register(0, 0, 3), 9);
        Check.is("waits", x.waits(0, 0, 's'), 'h');
        Check.is("tell", x.tell(0, 0, 2, 4, 1003, 1003), 2);
        x.step(1);
        Check.is("register", x.register(0, 0, 4), 18);
        Check.is("row", x.thread(0, 0, 'r'), 0);
        Check.fails("tell", Check.ARGUMENT, () -> x.tell(3, 0, 0, 0, 0, 0));
        Check.fails("tell", Check.ARGUMENT, () -> x.tell(0, 0, 100, 0, 0, 0));
        Check.fails("tell", Check.ARGUMENT, () -> x.tell(0, 0, -1, 0, 0, 0));
        Check.fails("tell", Check.INDEX, () -> x.tell(0, 5, 0, 0, 0, 0));
        Check.fails("tell", Check.INDEX, () -> x.tell(0, -1, 0, 0, 0, 0));
        Check.fails("tell", Check.INDEX, () -> x.tell(0, 14, 0, 0, 0, 0));
        KernelWorks y = new KernelWorks();
        y.spawn(0, 0, -1);
        Check.is("does", y.does(0, 0, 1, 7, 5, 0), 5);
        Check.is("does without a register", y.does(0, 0, 0, 8, 5, 0), 0);
        Check.is("does sleeps", y.does(0, 0, 33, 70, 0, 0), -1000);
        Check.is("time", y.time(), 62);
        Check.fails("does", Check.STATE, () -> y.does(0, 0, 0, 0, 0, 0));
        y.step(11);
        Check.is("sleep is over", y.waits(0, 0, 's'), 'h');
        Check.is("does makes another program", y.does(0, 0, 21, 0, 3, 0), -1002);
        Check.is("program", y.process(0, 1, 'g'), 3);
        Check.fails("does", Check.STATE, () -> y.does(0, 0, 0, 0, 0, 0));
        y.step(1);
        Check.fails("does", Check.INDEX, () -> y.does(0, 0, 0, 0, 0, 0));
        Check.fails("does", Check.ARGUMENT, () -> y.does(-1, 0, 0, 0, 0, 0));
        y.spawn(0, 0, -1);
        Check.is("does ends", y.does(0, 0, 22, 3, 0, 0), -1001);
        y.crash(0);
        Check.fails("does", Check.UNSUPPORTED, () -> y.does(0, 0, 0, 0, 0, 0));
        Check.fails("tell", Check.UNSUPPORTED, () -> y.tell(0, 0, 0, 0, 0, 0));
        Check.fails("tell", Check.ARGUMENT, () -> y.tell(0, 0, 100, 0, 0, 0));
    }

    private static void illRows() {
        KernelWorks x = new KernelWorks();
        for (int op = 0; op < 100; op++) {
            boolean is = op <= 14 || op >= 20 && op <= 35 || op >= 40 && op <= 46 || op >= 50 && op <= 71
                || op >= 80 && op <= 86;
            if (!is || op == 8 || op == 9 || op == 24 || op == 28 || op == 30) {
                x.spawn(0, 0, -1);
                Check.is("ill " + op, x.does(0, 0, op, 0, 0, 0), -1001);
                Check.is("event", x.event(x.events() - 1, 'n'), 1132);
            } else if (op > 0 && op != 11 && op != 22 && op != 26 && op != 33) {
                x.spawn(0, 0, -1);
                Check.is("no register " + op, x.does(0, 0, op, 8, 0, 0), -1001);
            }
        }
        x.spawn(0, 0, -1);
        Check.is("no R(c)", x.does(0, 0, 52, 0, 0, 9), -1001);
        x.spawn(0, 0, -1);
        Check.is("no R(c)", x.does(0, 0, 45, 0, 0, -1), -1001);
        // With the signal 4 masked an ill row stays, and is done anew.
        x.spawn(0, 0, -1);
        Check.is("mask", x.does(0, 0, 29, 1, 16, 0), 0);
        Check.is("ill row", x.does(0, 0, 99, 0, 0, 0), -1000);
        Check.is("pending", x.process(0, 1, 'w'), 16);
        Check.is("ready", x.thread(0, 0, 's'), 0);
    }

    private static void steps() {
        KernelWorks x = new KernelWorks();
        Check.is("step", x.step(1), 1);
        Check.is("step", x.step(399), 400);
        Check.fails("step", Check.ARGUMENT, () -> x.step(0));
        Check.fails("step", Check.ARGUMENT, () -> x.step(401));
        for (int i = 0; i < 48; i++) {
            x.step(400);
        }
        x.spawn(0, 0, -1);
        x.step(300);
        Check.is("does at 19900", x.does(0, 0, 1, 1, 5, 0), 5);
        Check.fails("does at 19901", Check.STATE, () -> x.does(0, 0, 1, 1, 5, 0));
        Check.fails("step", Check.STATE, () -> x.step(100));
        Check.is("step", x.step(99), 20000);
        Check.fails("step", Check.STATE, () -> x.step(1));
        Check.fails("step", Check.ARGUMENT, () -> x.step(0));
    }

    private static void crashes() {
        KernelWorks x = new KernelWorks();
        x.spawn(1, 0, -1);
        x.does(1, 0, 50, 1, 1, 6);
        Check.is("crash", x.crash(1), 4);
        Check.is("isUp", x.isUp(1), false);
        Check.text("events", Check.events(x, 0), "p1 x4");
        Check.fails("crash", Check.UNSUPPORTED, () -> x.crash(1));
        Check.fails("crash", Check.ARGUMENT, () -> x.crash(3));
        Check.fails("boot", Check.ARGUMENT, () -> x.boot(-1));
        Check.fails("boot", Check.UNSUPPORTED, () -> x.boot(0));
        Check.is("boot", x.boot(1), 0);
        Check.fails("what was not safe is gone", Check.NONE, () -> x.find(1, 1));
        Check.is("isUp", x.isUp(1), true);
        Check.fails("processes are gone", Check.INDEX, () -> x.process(1, 1, 'p'));
        Check.text("events", Check.events(x, 2), "y0");
    }

    private static void types() {
        KernelWorks x = new KernelWorks();
        Check.is("type", x.type(0, 0x6162L, 0, 0x0000630000000064L, 0, 0), 0);
        Check.is("keys", x.keys(0, false), 4);
        Check.is("type", x.type(0, 10, 0, 0, 0, 0), 5);
        Check.is("keys", x.keys(0, false), 0);
        Check.is("keys", x.keys(0, true), 5);
        Check.is("keys above 126 do nothing", x.type(0, -1L, 0x7F00000000000000L, 0, 0, 10), 6);
        Check.fails("type", Check.ARGUMENT, () -> x.type(3, 0, 0, 0, 0, 0));
        x.crash(1);
        Check.fails("type", Check.UNSUPPORTED, () -> x.type(1, 0, 0, 0, 0, 0));
    }

    private static void logins() {
        KernelWorks x = new KernelWorks();
        Check.is("login", x.login(0, 3), 1);
        Check.is("program", x.process(0, 1, 'g'), 28);
        Check.is("user", x.process(0, 1, 'u'), 3);
        Check.fails("login", Check.UNSUPPORTED, () -> x.login(0, 3));
        Check.fails("login", Check.ARGUMENT, () -> x.login(0, 5));
        Check.fails("login", Check.ARGUMENT, () -> x.login(3, 0));
        Check.type(x, 0, "exit\n");
        x.step(5);
        Check.is("login anew", x.login(0, 1), 1);
        x.crash(1);
        Check.fails("login", Check.UNSUPPORTED, () -> x.login(1, 0));
        // 16 open files, and none for a terminal.
        KernelWorks y = new KernelWorks();
        for (int t = 0; t < 3; t++) {
            y.spawn(0, 0, -1);
        }
        for (int i = 0; i < 16; i++) {
            Check.is("open", y.does(0, i / 6, 50, 0, 1, 7), i % 6);
        }
        Check.fails("login", Check.STATE, () -> y.login(0, 0));
        Check.is("open", y.does(0, 2, 50, 0, 1, 7), -23);
        Check.is("open", y.does(0, 1, 50, 0, 1, 7), -24);
        y.does(0, 2, 51, 0, 3, 0);
        Check.is("login", y.login(0, 0), 4);
    }

    private static void upgrades() {
        KernelWorks x = new KernelWorks();
        Check.program(x, 1, 43, 1, 0, 0, 8, 0, 0, 0);
        Check.program(x, 2, 8, 0, 0, 0);
        x.spawn(0, 0, 1);
        x.spawn(0, 0, -1);
        x.login(0, 0);
        x.spawn(0, 0, 2);
        Check.is("upgrade of one that runs", x.upgrade(0, 4, 3), false);
        x.step(8);
        Check.is("upgrade of one that waits", x.upgrade(0, 1, 2), true);
        Check.is("program", x.process(0, 1, 'g'), 2);
        Check.is("version", x.process(0, 1, 'v'), 1);
        Check.is("row", x.thread(0, 0, 'r'), 0);
        Check.is("register 7", x.register(0, 0, 7), 0);
        Check.is("program", x.process(0, 4, 'g'), 2);
        Check.fails("upgrade", Check.ARGUMENT, () -> x.upgrade(3, 1, 1));
        Check.fails("upgrade", Check.ARGUMENT, () -> x.upgrade(0, 1, 16));
        Check.fails("upgrade", Check.ARGUMENT, () -> x.upgrade(0, 99, -1));
        Check.fails("upgrade", Check.INDEX, () -> x.upgrade(0, 5, 1));
        Check.fails("upgrade", Check.INDEX, () -> x.upgrade(0, 0, 1));
        Check.fails("upgrade", Check.INDEX, () -> x.upgrade(0, 10, 1));
        Check.fails("upgrade", Check.INDEX, () -> x.upgrade(0, -1, 1));
        Check.fails("upgrade", Check.UNSUPPORTED, () -> x.upgrade(0, 2, 1));
        Check.fails("upgrade", Check.UNSUPPORTED, () -> x.upgrade(0, 3, 1));
        x.does(0, 1, 21, 0, 25, 0);
        Check.fails("upgrade of a tool", Check.UNSUPPORTED, () -> x.upgrade(0, 2, 1));
        x.crash(0);
        Check.fails("upgrade", Check.INDEX, () -> x.upgrade(0, 1, 1));
    }

    public static void main(String[] args) {
        newObject();
        rowsAndUsers();
        links();
        spawns();
        tells();
        illRows();
        steps();
        crashes();
        types();
        logins();
        upgrades();
        Check.end("ToldTest");
    }
}
