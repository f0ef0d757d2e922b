/** Each number of each call of the face: at its bounds, and on both sides of them; and which exception goes first. */
public final class BoundsFaceTest {
    private static KernelWorks x;

    private static void rows() {
        x = new KernelWorks();
        // "program: 0 to 15", "op: its operation, 0 to 99", "op2: the operation of the next row, 0 to 99, or -1".
        Check.range("rows program", Check.ARGUMENT, 0, 15, v -> x.rows(v, 0, 0, 0, 0, 0, -1, 0, 0, 0));
        Check.range("rows op", Check.ARGUMENT, 0, 99, v -> x.rows(0, 0, v, 0, 0, 0, -1, 0, 0, 0));
        Check.range("rows op2", Check.ARGUMENT, -1, 99, v -> x.rows(0, 0, 0, 0, 0, 0, v, 0, 0, 0));
        // "a: any number", "b", "c", "a2", "b2", "c2".
        for (int v : new int[] {Integer.MIN_VALUE, -1, 0, Integer.MAX_VALUE}) {
            Check.is("rows any number", x.rows(1, 0, 1, v, v, v, 1, v, v, v), 2);
        }
        // "at: where the first one is, up to how many there are".
        Check.range("rows at, without any", Check.INDEX, 0, 0, v -> x.rows(2, v, 0, 0, 0, 0, -1, 0, 0, 0));
        Check.range("rows at, with 2", Check.INDEX, 0, 2, v -> x.rows(1, v, 0, 0, 0, 0, -1, 0, 0, 0));
        Check.is("now there are 3", x.rows(1, 2, 0, 0, 0, 0, -1, 0, 0, 0), 3);
        // "IllegalStateException if it would have more than 24".
        for (int at = 1; at < 23; at++) {
            Check.is("rows", x.rows(2, at, 0, 0, 0, 0, -1, 0, 0, 0), at + 1);
        }
        Check.fails("25 by two", Check.STATE, () -> x.rows(2, 24 - 1, 0, 0, 0, 0, 0, 0, 0, 0));
        Check.is("24 by one", x.rows(2, 23, 0, 0, 0, 0, -1, 0, 0, 0), 24);
        Check.fails("25 by one", Check.STATE, () -> x.rows(2, 24, 0, 0, 0, 0, -1, 0, 0, 0));
        Check.fails("26 by two", Check.STATE, () -> x.rows(2, 24, 0, 0, 0, 0, 0, 0, 0, 0));
        Check.is("24 in place", x.rows(2, 23, 0, 0, 0, 0, -1, 0, 0, 0), 24);
        Check.is("two in place", x.rows(2, 22, 0, 0, 0, 0, 0, 0, 0, 0), 24);
        Check.fails("behind 24", Check.INDEX, () -> x.rows(2, 25, 0, 0, 0, 0, -1, 0, 0, 0));
        // "If several exceptions apply, the one that is documented first is thrown."
        Check.fails("op ahead of at", Check.ARGUMENT, () -> x.rows(2, 25, 100, 0, 0, 0, -1, 0, 0, 0));
        Check.fails("op2 ahead of 25", Check.ARGUMENT, () -> x.rows(2, 24, 0, 0, 0, 0, 100, 0, 0, 0));
    }

    private static void userLinkCutSeed() {
        x = new KernelWorks();
        Check.range("user", Check.ARGUMENT, 0, 4, v -> x.user(v, 0, 1, 40, 20));
        Check.range("user groups", Check.ARGUMENT, 0, 7, v -> x.user(0, v, 1, 40, 20));
        Check.range("user share", Check.ARGUMENT, 1, 9, v -> x.user(0, 0, v, 40, 20));
        Check.range("user blocks", Check.ARGUMENT, 0, 40, v -> x.user(0, 0, 1, v, 20));
        Check.range("user inodes", Check.ARGUMENT, 0, 20, v -> x.user(0, 0, 1, 40, v));
        for (int u = 1; u < 5; u++) {
            Check.is("share at first", x.user(u, 0, 9, 40, 20), 1);
            Check.is("share before", x.user(u, 0, 1, 40, 20), 9);
        }
        Check.range("link one", Check.ARGUMENT, 0, 2, v -> x.link(v, 1, 3, 0, 0));
        Check.range("link other", Check.ARGUMENT, 0, 2, v -> x.link(1, v, 3, 0, 0));
        Check.range("link delay", Check.ARGUMENT, 1, 9, v -> x.link(0, 1, v, 0, 0));
        Check.range("link loss", Check.ARGUMENT, 0, 9, v -> x.link(0, 1, 1, v, 0));
        Check.range("link twice", Check.ARGUMENT, 0, 9, v -> x.link(0, 1, 1, 0, v));
        Check.range("cut one", Check.ARGUMENT, 0, 2, v -> x.cut(v, 1, false));
        Check.range("cut other", Check.ARGUMENT, 0, 2, v -> x.cut(1, v, false));
        x = new KernelWorks();
        for (int m = 0; m < 3; m++) {
            int one = m;
            Check.fails("link to itself", Check.UNSUPPORTED, () -> x.link(one, one, 1, 0, 0));
            Check.fails("link to itself of a bad delay", Check.ARGUMENT, () -> x.link(one, one, 0, 0, 0));
            Check.fails("cut from itself", Check.UNSUPPORTED, () -> x.cut(one, one, true));
            // "a delay, 3 at first": each pair has its own, told from either side.
            Check.is("delay at first", x.link(one, (one + 1) % 3, one + 1, 0, 0), 3);
            Check.is("not cut at first", x.cut(one, (one + 1) % 3, true), false);
        }
        for (int m = 0; m < 3; m++) {
            Check.is("delay before", x.link((m + 1) % 3, m, 9, 0, 0), m + 1);
            Check.is("it was cut", x.cut((m + 1) % 3, m, false), true);
            Check.is("it was not", x.cut(m, (m + 1) % 3, false), false);
        }
        // "z, 0 at first", "any number".
        Check.is("seed", x.seed(Integer.MAX_VALUE), 0);
        Check.is("seed", x.seed(Integer.MIN_VALUE), Integer.MAX_VALUE);
        Check.is("seed", x.seed(0), Integer.MIN_VALUE);
    }

    private static void spawnLogin() {
        Check.range("spawn machine", Check.ARGUMENT, 0, 2, v -> new KernelWorks().spawn(v, 0, 0));
        Check.range("spawn user", Check.ARGUMENT, 0, 4, v -> new KernelWorks().spawn(0, v, 0));
        Check.range("spawn program", Check.ARGUMENT, -1, 15, v -> new KernelWorks().spawn(0, 0, v));
        Check.range("login machine", Check.ARGUMENT, 0, 2, v -> new KernelWorks().login(v, 0));
        Check.range("login user", Check.ARGUMENT, 0, 4, v -> new KernelWorks().login(0, v));
        // The ninth process is the last one; with one gone there is room for one.
        x = Check.driven(0, 0, 0, 0, 0, 0, 0, 0);
        Check.is("the ninth", x.login(0, 0), 9);
        Check.fails("the tenth", Check.STATE, () -> x.spawn(0, 0, 0));
        Check.fails("a second shell, ahead of that", Check.UNSUPPORTED, () -> x.login(0, 0));
        x.does(0, 3, 22, 0, 0, 0);
        Check.is("the lowest that none has", x.spawn(0, 0, -1), 4);
        Check.fails("the tenth", Check.STATE, () -> x.spawn(0, 0, -1));
        x.crash(0);
        Check.fails("down, ahead of that", Check.UNSUPPORTED, () -> x.spawn(0, 0, 0));
        Check.fails("bad, ahead of that", Check.ARGUMENT, () -> x.spawn(0, 5, 0));
        Check.fails("bad, ahead of that", Check.ARGUMENT, () -> x.login(0, 5));
        Check.fails("down", Check.UNSUPPORTED, () -> x.login(0, 0));
        x = Check.driven(0, 0, 0, 0, 0, 0, 0, 0, 0);
        Check.fails("login without a process", Check.STATE, () -> x.login(0, 0));
        // 14 threads: with 13 there is room for one more.
        x = new KernelWorks();
        Check.program(x, 0, 24, 1, 0, 0, 33, 300, 0, 0);
        Check.program(x, 1, 6, 1, 1000, 11, 2, 0, 1000, 1, 9, 1001, 5, 0, 33, 300, 0, 0, 0, 0, 0, 0, 24, 2, 3, 0,
            8, 0, 0, 0);
        x.spawn(0, 0, 1);
        x.step(80);
        Check.is("threads", x.process(0, 1, 'h'), 12);
        Check.is("the 13th", x.spawn(0, 0, -1), 2);
        Check.is("the 14th", x.login(0, 0), 3);
        Check.is("its number", x.thread(0, 13, 'p'), 3);
        Check.fails("the 15th", Check.STATE, () -> x.spawn(0, 0, 0));
        x.does(0, 12, 22, 0, 0, 0);
        Check.is("the 14th", x.spawn(0, 0, 0), 2);
    }

    private static KernelWorks onAll() {
        KernelWorks y = new KernelWorks();
        for (int m = 0; m < 3; m++) {
            y.spawn(m, 0, -1);
        }
        return y;
    }

    private static void upgrades() {
        // "UnsupportedOperationException if it is a shell, a driven one, or has a tool as its program": 15 is none.
        for (int program : new int[] {-1, 0, 15, 16, 27}) {
            x = Check.driven(0);
            if (program >= 0) {
                x.does(0, 0, 21, 0, program, 0);
            }
            boolean may = program >= 0 && program <= 15;
            Check.fails("upgrade of " + program, may ? null : Check.UNSUPPORTED, () -> x.upgrade(0, 1, 3));
        }
        x = new KernelWorks();
        x.login(0, 0);
        Check.fails("upgrade of a shell", Check.UNSUPPORTED, () -> x.upgrade(0, 1, 3));
        for (int p : new int[] {-1, 0, 2, 9, 10, Integer.MIN_VALUE, Integer.MAX_VALUE}) {
            Check.fails("upgrade of the process " + p, Check.INDEX, () -> x.upgrade(0, p, 3));
        }
        x = Check.driven(0);
        x.does(0, 0, 20, 1, 0, 0);
        x.does(0, 1, 22, 0, 0, 0);
        Check.fails("upgrade of one that ended", Check.INDEX, () -> x.upgrade(0, 2, 3));
    }

    private static void tellDoes() {
        x = Check.driven(0);
        Check.range("tell machine", Check.ARGUMENT, 0, 2, v -> onAll().tell(v, 0, 0, 0, 0, 0));
        Check.range("tell op", Check.ARGUMENT, 0, 99, v -> Check.driven(0).tell(0, 0, v, 0, 0, 0));
        Check.range("tell thread", Check.INDEX, 0, 0, v -> Check.driven(0).tell(0, v, 0, 0, 0, 0));
        Check.range("does machine", Check.ARGUMENT, 0, 2, v -> onAll().does(v, 0, 0, 0, 0, 0));
        Check.range("does op", Check.ARGUMENT, 0, 99, v -> Check.driven(0).does(0, 0, v, 0, 0, 0));
        Check.range("does thread", Check.INDEX, 0, 0, v -> Check.driven(0).does(0, v, 0, 0, 0, 0));
        Check.fails("a machine without threads", Check.INDEX, () -> x.tell(1, 0, 0, 0, 0, 0));
        Check.fails("a machine without threads", Check.INDEX, () -> x.does(2, 0, 0, 0, 0, 0));
        // "Returns what its register a is then, 0 if a is no register".
        Check.is("register 0", x.does(0, 0, 1, 0, 40, 0), 40);
        Check.is("register 7", x.does(0, 0, 1, 7, 47, 0), 47);
        Check.is("0 is a register", x.does(0, 0, 0, 0, 0, 0), 40);
        Check.is("7 is a register", x.does(0, 0, 0, 7, 0, 0), 47);
        Check.is("8 is none", x.does(0, 0, 0, 8, 0, 0), 0);
        Check.is("-1 is none", x.does(0, 0, 0, -1, 0, 0), 0);
        Check.is("1007 is none", x.does(0, 0, 0, 1007, 0, 0), 0);
        // "60 at most", "-1000 if it is not done": a sleep of 58 ticks is over in the 59th one behind the telling.
        int before = x.time();
        x.does(0, 0, 33, 58, 0, 0);
        Check.is("58", x.time() - before, 59);
        before = x.time();
        Check.is("59 is done", x.does(0, 0, 33, 59, 0, 0), 0);
        Check.is("59", x.time() - before, 60);
        before = x.time();
        Check.is("60 is not done", x.does(0, 0, 33, 60, 0, 0), -1000);
        Check.is("60", x.time() - before, 60);
        Check.fails("it does not wait to be told", Check.STATE, () -> x.does(0, 0, 0, 0, 0, 0));
        Check.fails("it does not wait to be told", Check.STATE, () -> x.tell(0, 0, 0, 0, 0, 0));
        x.step(1);
        Check.is("now it does", x.does(0, 0, 1, 0, 5, 0), 5);
        // "-1001 if the thread is gone or has ended, -1002 if its process has another program".
        x = Check.driven(0);
        Check.is("gone by 22", x.does(0, 0, 22, 0, 0, 0), -1001);
        Check.is("in one tick", x.time(), 1);
        Check.is("the number is free", x.spawn(0, 0, -1), 1);
        Check.is("gone by 26", x.does(0, 0, 26, 0, 0, 0), -1001);
        x.spawn(0, 0, -1);
        x.does(0, 0, 20, 0, 0, 0);
        Check.is("a child that ended is gone, too", x.does(0, 1, 22, 0, 0, 0), -1001);
        Check.is("another program", x.does(0, 0, 21, 0, 27, 0), -1002);
        // Gone by its alarm in the tick in which another process makes one of the same number.
        x = Check.driven(0);
        Check.program(x, 0, 33, 5, 0, 0, 20, 1, 0, 0, 33, 99, 0, 0);
        x.does(0, 0, 31, 1, 6, 0);
        x.spawn(0, 0, 0);
        Check.is("the alarm", x.does(0, 0, 33, 40, 0, 0), -1001);
        Check.is("at 7", x.time(), 7);
        Check.is("another one has its number", x.thread(0, 0, 'p'), 1);
        Check.is("its parent", x.process(0, 1, 'p'), 2);
        // "or its process has another program": the number of the thread may be another one's by then.
        x = Check.driven(0, 0);
        Check.program(x, 0, 27, 1, 1, 3, 20, 1, 0, 0, 22, 0, 0, 0);
        x.tell(0, 1, 21, 0, 0, 0);
        Check.is("gone while it sleeps", x.does(0, 0, 33, 40, 0, 0), -1001);
        Check.fails("no such thread, ahead of the state", Check.INDEX, () -> x.tell(0, 13, 0, 0, 0, 0));
        x.crash(0);
        Check.fails("down, ahead of the thread", Check.UNSUPPORTED, () -> x.tell(0, 13, 0, 0, 0, 0));
        Check.fails("down, ahead of the thread", Check.UNSUPPORTED, () -> x.does(0, -1, 0, 0, 0, 0));
        Check.fails("bad, ahead of down", Check.ARGUMENT, () -> x.does(0, -1, 100, 0, 0, 0));
    }

    private static void clockBounds() {
        // "ticks: 1 to 400"; "IllegalStateException if the clock would be above 20000";
        // "or the clock is above 19900".
        x = Check.driven(0);
        Check.range("step", Check.ARGUMENT, 1, 400, v -> x.step(v));
        Check.is("time", x.time(), 401);
        x.step(99);
        for (int i = 0; i < 48; i++) {
            x.step(400);
        }
        x.step(199);
        Check.is("time", x.time(), 19899);
        Check.is("does at 19899", x.does(0, 0, 1, 0, 6, 0), 6);
        Check.is("does at 19900", x.does(0, 0, 1, 0, 7, 0), 7);
        Check.is("time", x.time(), 19901);
        Check.fails("does at 19901", Check.STATE, () -> x.does(0, 0, 1, 0, 8, 0));
        Check.is("tell at 19901", x.tell(0, 0, 1, 0, 9, 0), 19901);
        Check.fails("20001", Check.STATE, () -> x.step(100));
        Check.is("nothing changed", x.time(), 19901);
        Check.is("20000", x.step(99), 20000);
        Check.is("done", x.register(0, 0, 0), 9);
        Check.fails("20001", Check.STATE, () -> x.step(1));
        Check.fails("20400", Check.STATE, () -> x.step(400));
        Check.fails("bad, ahead of that", Check.ARGUMENT, () -> x.step(401));
        Check.fails("bad, ahead of that", Check.ARGUMENT, () -> x.step(0));
        Check.is("tell", x.tell(0, 0, 1, 0, 9, 0), 20000);
    }

    private static void machines() {
        // "machine: 0 to 2", of each call that has no other number; up or down goes behind that.
        x = new KernelWorks();
        x.crash(1);
        int[] bad = {-1, 3, Integer.MIN_VALUE, Integer.MAX_VALUE};
        for (int m : bad) {
            Check.fails("crash", Check.ARGUMENT, () -> x.crash(m));
            Check.fails("boot", Check.ARGUMENT, () -> x.boot(m));
            Check.fails("type", Check.ARGUMENT, () -> x.type(m, 0, 0, 0, 0, 0));
            Check.fails("upgrade", Check.ARGUMENT, () -> x.upgrade(m, 1, 0));
            Check.fails("process", Check.ARGUMENT, () -> x.process(m, 0, 'p'));
            Check.fails("thread", Check.ARGUMENT, () -> x.thread(m, 0, 'p'));
            Check.fails("register", Check.ARGUMENT, () -> x.register(m, 0, 0));
            Check.fails("waits", Check.ARGUMENT, () -> x.waits(m, 0, 's'));
            Check.fails("ran", Check.ARGUMENT, () -> x.ran(m));
            Check.fails("load", Check.ARGUMENT, () -> x.load(m, 0));
            Check.fails("page", Check.ARGUMENT, () -> x.page(m, 0, 0));
            Check.fails("pageAt", Check.ARGUMENT, () -> x.pageAt(m, 0, 0));
            Check.fails("frame", Check.ARGUMENT, () -> x.frame(m, 0, 'a'));
            Check.fails("cell", Check.ARGUMENT, () -> x.cell(m, 0, 0));
            Check.fails("lock", Check.ARGUMENT, () -> x.lock(m, 0, 'h'));
            Check.fails("queue", Check.ARGUMENT, () -> x.queue(m, 0, 0));
            Check.fails("deadlocked", Check.ARGUMENT, () -> x.deadlocked(m));
            Check.fails("find", Check.ARGUMENT, () -> x.find(m, 0));
            Check.fails("inode", Check.ARGUMENT, () -> x.inode(m, 0, 0));
            Check.fails("content", Check.ARGUMENT, () -> x.content(m, 0, 0));
            Check.fails("block", Check.ARGUMENT, () -> x.block(m, 0, 0));
            Check.fails("held", Check.ARGUMENT, () -> x.held(m, 30));
            Check.fails("log", Check.ARGUMENT, () -> x.log(m, 'o'));
            Check.fails("spoil", Check.ARGUMENT, () -> x.spoil(m, 0, 0, 0));
            Check.fails("faults", Check.ARGUMENT, () -> x.faults(m));
            Check.fails("fault", Check.ARGUMENT, () -> x.fault(m, 0, false));
            Check.fails("mend", Check.ARGUMENT, () -> x.mend(m));
            Check.fails("isWhole", Check.ARGUMENT, () -> x.isWhole(m));
            Check.fails("disc", Check.ARGUMENT, () -> x.disc(m, 'a'));
            Check.fails("shown", Check.ARGUMENT, () -> x.shown(m, 0));
            Check.fails("printed", Check.ARGUMENT, () -> x.printed(m, 0));
            Check.fails("keys", Check.ARGUMENT, () -> x.keys(m, true));
            Check.fails("end", Check.ARGUMENT, () -> x.end(m, 0, 's'));
            Check.fails("packets", Check.ARGUMENT, () -> x.packets(m));
            Check.fails("leases", Check.ARGUMENT, () -> x.leases(m, 0));
            Check.fails("copies", Check.ARGUMENT, () -> x.copies(m));
            Check.fails("status", Check.ARGUMENT, () -> x.status(m, 1));
            Check.fails("variable", Check.ARGUMENT, () -> x.variable(m, 1, 'a', 0));
            Check.fails("job", Check.ARGUMENT, () -> x.job(m, 1, 0));
            Check.fails("account", Check.ARGUMENT, () -> x.account(m, 0, 't'));
            Check.fails("isUp", Check.ARGUMENT, () -> x.isUp(m));
            Check.fails("busyShare", Check.ARGUMENT, () -> x.busyShare(m));
            Check.fails("meanAge", Check.ARGUMENT, () -> x.meanAge(m));
        }
    }

    private static void machinesAtTheirBounds() {
        x = new KernelWorks();
        x.step(1);
        for (int m : new int[] {0, 2}) {
            Check.is("ran", x.ran(m), -1);
            Check.is("load", x.load(m, 4), 0);
            Check.is("process", x.process(m, 0, 'r'), 4);
            Check.is("page", x.page(m, 0, 7), 'n');
            Check.is("frame", x.frame(m, 7, 'b'), -1);
            Check.is("cell", x.cell(m, 0, 63), 0);
            Check.is("lock", x.lock(m, 5, 'h'), -1);
            Check.fails("queue", Check.NONE, () -> x.queue(m, 3, 0));
            Check.is("deadlocked", x.deadlocked(m), 0);
            Check.is("find", x.find(m, 0), 0);
            Check.is("inode", x.inode(m, 19, 7), 0);
            Check.is("block", x.block(m, 81, 7), 0);
            Check.is("held", x.held(m, 69), false);
            Check.is("log", x.log(m, 'p'), 0);
            Check.is("faults", x.faults(m), 0);
            Check.is("isWhole", x.isWhole(m), true);
            Check.is("disc", x.disc(m, 'b'), -1);
            Check.fails("shown", Check.NONE, () -> x.shown(m, 0));
            Check.fails("printed", Check.NONE, () -> x.printed(m, 0));
            Check.is("keys", x.keys(m, true), 0);
            Check.fails("end", Check.NONE, () -> x.end(m, 5, 's'));
            Check.is("packets", x.packets(m), 0);
            Check.is("leases", x.leases(m, 19), 0);
            Check.is("copies", x.copies(m), 0);
            Check.is("account", x.account(m, 4, 'n'), 0);
            Check.is("busyShare", x.busyShare(m), 0.0);
            Check.is("type", x.type(m, 'a', 'b', 'c', 'd', 'e'), 0);
            Check.is("keys", x.keys(m, false), 5);
            Check.is("crash", x.crash(m), 0);
            Check.is("spoil", x.spoil(m, 69, 7, 0), 0);
            Check.is("mend", x.mend(m), 0);
            Check.is("boot", x.boot(m), 0);
            Check.is("login", x.login(m, 4), 1);
            Check.is("status", x.status(m, 1), 0);
            Check.is("job", x.job(m, 1, 4), 0);
            Check.fails("variable", Check.NONE, () -> x.variable(m, 1, 'z', 0));
        }
    }

    private static void numbersOfAsks() {
        x = Check.driven(0);
        x.login(0, 0);
        Check.range("upgrade program", Check.ARGUMENT, 0, 15, v -> {
            KernelWorks y = new KernelWorks();
            y.spawn(0, 0, 0);
            y.upgrade(0, 1, v);
        });
        Check.range("process", Check.INDEX, 0, 2, v -> x.process(0, v, 'p'));
        Check.range("thread", Check.INDEX, 0, 1, v -> x.thread(0, v, 'p'));
        Check.range("register thread", Check.INDEX, 0, 1, v -> x.register(0, v, 0));
        Check.range("register index", Check.INDEX, 0, 7, v -> x.register(0, 0, v));
        x.step(1);
        Check.range("waits", Check.INDEX, 0, 1, v -> x.waits(0, v, 's'));
        Check.range("load", Check.ARGUMENT, 0, 4, v -> x.load(0, v));
        Check.range("page process", Check.INDEX, 0, 2, v -> x.page(0, v, 0));
        Check.range("page", Check.INDEX, 0, 7, v -> x.page(0, 1, v));
        x.does(0, 0, 11, 1, 0, 0);
        x.does(0, 0, 11, 1, 63, 0);
        Check.fails("pageAt process", Check.INDEX, () -> x.pageAt(0, -1, 0));
        Check.fails("pageAt process", Check.INDEX, () -> x.pageAt(0, 3, 0));
        Check.fails("pageAt process", Check.INDEX, () -> x.pageAt(0, 10, 0));
        Check.fails("pageAt of one that is not there", Check.NONE, () -> x.pageAt(0, 0, 0));
        Check.range("pageAt", Check.INDEX, 0, 7, v -> x.pageAt(0, 1, v));
        Check.range("frame", Check.INDEX, 0, 7, v -> x.frame(0, v, 'a'));
        Check.range("cell process", Check.INDEX, 0, 2, v -> x.cell(0, v, 0));
        Check.range("cell", Check.INDEX, 0, 63, v -> x.cell(0, 1, v));
        Check.range("lock", Check.INDEX, 0, 5, v -> x.lock(0, v, 'h'));
        for (int q = 0; q < 4; q++) {
            for (int i = 0; i < 3; i++) {
                x.does(0, 0, 42, 1, q, i);
            }
        }
        Check.range("queue", Check.INDEX, 0, 3, v -> x.queue(0, v, 0));
        Check.range("queue index", Check.NONE, 0, 2, v -> x.queue(0, 0, v));
        Check.is("find", x.find(0, 0), 0);
        Check.fails("find", Check.ARGUMENT, () -> x.find(0, -1));
        Check.fails("find", Check.ARGUMENT, () -> x.find(0, Integer.MIN_VALUE));
        Check.fails("find", Check.NONE, () -> x.find(0, 1));
        Check.fails("find", Check.NONE, () -> x.find(0, Integer.MAX_VALUE));
        Check.range("inode", Check.INDEX, 0, 19, v -> x.inode(0, v, 0));
        Check.range("inode cell", Check.INDEX, 0, 7, v -> x.inode(0, 0, v));
        Check.is("50", x.does(0, 0, 50, 1, 1, 6), 0);
        Check.is("content", x.content(0, 0, 0), 101);
        Check.fails("content", Check.NONE, () -> x.content(0, 0, 1));
        Check.fails("content", Check.INDEX, () -> x.content(0, -1, 0));
        Check.fails("content", Check.INDEX, () -> x.content(0, 20, 0));
        Check.fails("content", Check.UNSUPPORTED, () -> x.content(0, 19, 0));
        Check.range("block", Check.INDEX, 0, 81, v -> x.block(0, v, 0));
        Check.range("block cell", Check.INDEX, 0, 7, v -> x.block(0, 0, v));
        Check.range("held", Check.INDEX, 30, 69, v -> x.held(0, v));
        Check.range("end", Check.INDEX, 0, 5, v -> endOrNone(v));
        Check.range("named", Check.ARGUMENT, 1, 26, v -> nameOrNone(v));
        Check.range("leases", Check.INDEX, 0, 19, v -> x.leases(0, v));
        Check.range("account", Check.ARGUMENT, 0, 4, v -> x.account(0, v, 't'));
        Check.range("job", Check.ARGUMENT, 0, 4, v -> x.job(0, 2, v));
        Check.is("status", x.status(0, 2), 0);
        Check.fails("status", Check.UNSUPPORTED, () -> x.status(0, 1));
        Check.fails("status", Check.INDEX, () -> x.status(0, 3));
        Check.fails("status", Check.INDEX, () -> x.status(0, -1));
        x.crash(0);
        Check.range("spoil block", Check.INDEX, 0, 69, v -> x.spoil(0, v, 0, x.block(0, v, 0)));
        Check.range("spoil cell", Check.INDEX, 0, 7, v -> x.spoil(0, 30, v, x.block(0, 30, v)));
        Check.is("spoil any number", x.spoil(0, 69, 0, Integer.MIN_VALUE), 0);
        Check.is("spoil any number", x.spoil(0, 69, 0, Integer.MAX_VALUE), Integer.MIN_VALUE);
    }

    private static void endOrNone(int end) {
        try {
            x.end(0, end, 's');
        } catch (java.util.NoSuchElementException e) {
            return;
        }
    }

    private static void nameOrNone(int name) {
        try {
            x.named(name);
        } catch (java.util.NoSuchElementException e) {
            return;
        }
    }

    private static void whats() {
        x = Check.driven(0);
        x.does(0, 0, 20, 1, 0, 0);
        x.does(0, 1, 22, 3, 0, 0);
        Check.letters("process", "pugvdsxmwrltfhc", v -> x.process(0, 2, (char) v));
        Check.letters("thread", "prs", v -> x.thread(0, 0, v == 'v' ? 'V' : (char) v));
        Check.letters("waits", "snt", v -> x.waits(0, 0, (char) v));
        Check.letters("frame", "apbcg", v -> x.frame(0, 0, (char) v));
        Check.letters("lock", "hbw", v -> x.lock(0, 0, (char) v));
        Check.letters("log", "onsp", v -> x.log(0, (char) v));
        Check.letters("disc", "aqlb", v -> x.disc(0, (char) v));
        Check.letters("account", "tfrwn", v -> x.account(0, 0, (char) v));
        Check.letters("event", "tmsn", v -> x.event(0, (char) v));
        x.tell(0, 0, 81, 1, 1, 0);
        x.step(1);
        Check.letters("end", "simorbx", v -> x.end(0, 0, (char) v));
        x = new KernelWorks();
        x.login(0, 0);
        Check.type(x, 0, "a=1;b=1;y=1;z=1\n");
        x.step(9);
        for (char letter : new char[] {'a', 'b', 'y', 'z'}) {
            Check.is("variable " + letter, x.variable(0, 1, letter, 0), '1');
        }
        Check.fails("` is none", Check.ARGUMENT, () -> x.variable(0, 1, '`', 0));
        Check.fails("{ is none", Check.ARGUMENT, () -> x.variable(0, 1, '{', 0));
        Check.fails("? is none", Check.ARGUMENT, () -> x.variable(0, 1, '?', 0));
        Check.fails("the letter ahead of the process", Check.ARGUMENT, () -> x.variable(0, 9, 'Z', 0));
        Check.fails("the process ahead of the index", Check.INDEX, () -> x.variable(0, 9, 'a', 9));
        Check.fails("no shell ahead of the index", Check.UNSUPPORTED, () -> x.variable(0, 0, 'a', 9));
    }

    private static void ordersOfExceptions() {
        // "If several exceptions apply, the one that is documented first is thrown."
        x = Check.driven(0);
        x.crash(2);
        Check.fails("process", Check.ARGUMENT, () -> x.process(2, 99, 'z'));
        Check.fails("process", Check.UNSUPPORTED, () -> x.process(2, 99, 'x'));
        Check.fails("process", Check.INDEX, () -> x.process(0, 99, 'x'));
        Check.fails("process", Check.NONE, () -> x.process(0, 1, 'x'));
        Check.fails("process", Check.NONE, () -> x.process(0, 0, 'x'));
        Check.fails("thread", Check.ARGUMENT, () -> x.thread(2, 99, 'z'));
        Check.fails("thread", Check.UNSUPPORTED, () -> x.thread(2, 99, 'v'));
        Check.fails("thread", Check.INDEX, () -> x.thread(0, 99, 'v'));
        Check.fails("thread", Check.NONE, () -> x.thread(0, 0, 'v'));
        Check.fails("register", Check.UNSUPPORTED, () -> x.register(2, 99, 99));
        Check.fails("register", Check.INDEX, () -> x.register(0, 0, 99));
        Check.fails("waits", Check.ARGUMENT, () -> x.waits(2, 99, 'z'));
        Check.fails("waits", Check.UNSUPPORTED, () -> x.waits(2, 99, 's'));
        Check.fails("load", Check.ARGUMENT, () -> x.load(2, 99));
        Check.fails("load", Check.UNSUPPORTED, () -> x.load(2, 0));
        Check.fails("page", Check.UNSUPPORTED, () -> x.page(2, 99, 99));
        Check.fails("pageAt", Check.UNSUPPORTED, () -> x.pageAt(2, 99, 99));
        Check.fails("pageAt", Check.INDEX, () -> x.pageAt(0, 1, 99));
        Check.fails("frame", Check.ARGUMENT, () -> x.frame(2, 99, 'z'));
        Check.fails("frame", Check.UNSUPPORTED, () -> x.frame(2, 99, 'a'));
        Check.fails("cell", Check.UNSUPPORTED, () -> x.cell(2, 99, 99));
        Check.fails("lock", Check.ARGUMENT, () -> x.lock(2, 99, 'z'));
        Check.fails("lock", Check.UNSUPPORTED, () -> x.lock(2, 99, 'h'));
        Check.fails("queue", Check.UNSUPPORTED, () -> x.queue(2, 99, 99));
        Check.fails("queue", Check.INDEX, () -> x.queue(0, 99, 99));
        Check.fails("find", Check.ARGUMENT, () -> x.find(0, -27));
        Check.fails("content", Check.INDEX, () -> x.content(0, 20, -1));
        Check.fails("content", Check.UNSUPPORTED, () -> x.content(0, 19, -1));
        Check.fails("content", Check.NONE, () -> x.content(0, 0, -1));
        Check.fails("held", Check.UNSUPPORTED, () -> x.held(2, 99));
        Check.fails("log", Check.ARGUMENT, () -> x.log(2, 'z'));
        Check.fails("log", Check.UNSUPPORTED, () -> x.log(2, 'o'));
        Check.fails("spoil", Check.UNSUPPORTED, () -> x.spoil(0, 99, 99, 0));
        Check.fails("disc", Check.ARGUMENT, () -> x.disc(2, 'z'));
        Check.fails("disc", Check.UNSUPPORTED, () -> x.disc(2, 'a'));
        Check.fails("end", Check.ARGUMENT, () -> x.end(2, 99, 'z'));
        Check.fails("end", Check.UNSUPPORTED, () -> x.end(2, 99, 's'));
        Check.fails("end", Check.INDEX, () -> x.end(0, 99, 's'));
        Check.fails("leases", Check.UNSUPPORTED, () -> x.leases(2, 99));
        Check.fails("status", Check.INDEX, () -> x.status(2, 0));
        Check.fails("status", Check.UNSUPPORTED, () -> x.status(0, 0));
        Check.fails("job", Check.ARGUMENT, () -> x.job(2, 99, 5));
        Check.fails("job", Check.INDEX, () -> x.job(2, 0, 0));
        Check.fails("upgrade", Check.ARGUMENT, () -> x.upgrade(2, 99, 16));
        Check.fails("upgrade", Check.INDEX, () -> x.upgrade(2, 1, 0));
        Check.fails("upgrade", Check.INDEX, () -> x.upgrade(0, 0, 0));
        Check.fails("upgrade", Check.UNSUPPORTED, () -> x.upgrade(0, 1, 0));
        Check.fails("event", Check.NONE, () -> x.event(99, 'z'));
        Check.fails("event", Check.ARGUMENT, () -> x.event(0, 'z'));
        Check.fails("busyShare", ArithmeticException.class, () -> x.busyShare(2));
        Check.fails("meanAge", Check.UNSUPPORTED, () -> x.meanAge(2));
        Check.fails("meanAge", ArithmeticException.class, () -> x.meanAge(0));
    }

    private static void whatThrowsChangesNothing() {
        // "A method that throws an exception changes nothing."
        x = Check.driven(0);
        x.does(0, 0, 50, 1, 1, 7);
        long sum = x.checksum();
        int events = x.events();
        int time = x.time();
        Check.fails("rows", Check.ARGUMENT, () -> x.rows(0, 0, 0, 0, 0, 0, 100, 0, 0, 0));
        Check.fails("the first row was not told", Check.INDEX, () -> x.rows(0, 1, 0, 0, 0, 0, -1, 0, 0, 0));
        Check.fails("user", Check.ARGUMENT, () -> x.user(0, 7, 9, 41, 20));
        Check.is("the share is as before", x.user(0, 0, 1, 40, 20), 1);
        Check.fails("link", Check.ARGUMENT, () -> x.link(0, 1, 9, 10, 0));
        Check.is("the delay is as before", x.link(0, 1, 3, 0, 0), 3);
        Check.fails("spawn", Check.ARGUMENT, () -> x.spawn(0, 0, 16));
        Check.fails("does", Check.ARGUMENT, () -> x.does(0, 0, 100, 0, 0, 0));
        Check.fails("step", Check.ARGUMENT, () -> x.step(401));
        Check.fails("boot", Check.UNSUPPORTED, () -> x.boot(0));
        Check.fails("mend", Check.UNSUPPORTED, () -> x.mend(0));
        Check.fails("spoil", Check.UNSUPPORTED, () -> x.spoil(0, 0, 0, 5));
        Check.is("checksum", x.checksum(), sum);
        Check.is("events", x.events(), events);
        Check.is("time", x.time(), time);
        Check.is("isReplayed", x.isReplayed(), true);
    }

    private static void manyCalls() {
        // "An object is used for at most 512 calls": the last of them is answered as the first one.
        x = new KernelWorks();
        for (int i = 1; i <= 512; i++) {
            Check.is("seed " + i, x.seed(i), i - 1);
        }
        x = Check.driven(0);
        for (int i = 2; i <= 512; i++) {
            Check.is("does " + i, x.does(0, 0, 2, 1, 1001, 1), i - 1);
        }
        Check.is("time", x.time(), 511);
    }

    public static void main(String[] args) {
        manyCalls();
        rows();
        userLinkCutSeed();
        spawnLogin();
        upgrades();
        tellDoes();
        clockBounds();
        machines();
        machinesAtTheirBounds();
        numbersOfAsks();
        whats();
        ordersOfExceptions();
        whatThrowsChangesNothing();
        Check.end("BoundsFaceTest");
    }
}
