/** Promises 23 to 25, with part 8 of the terms: connections, names, far files. */
public final class NetworkTest {
    private static KernelWorks x;

    /** Two driven processes, on the machines 0 and 1, with a link that needs 2 ticks. */
    private static void start() {
        x = new KernelWorks();
        x.link(0, 1, 2, 0, 0);
        x.spawn(0, 0, -1);
        x.spawn(1, 0, -1);
    }

    private static void row(String what, int due, int machine, int op, int b, int c) {
        Check.is(what, x.does(machine, 0, op, 1, b, c), due);
    }

    private static void connect() {
        row("80", 0, 1, 80, 3, 0);
        x.tell(0, 0, 81, 1, 1, 3);
        x.step(5);
        row("82", 0, 1, 82, 3, 0);
    }

    private static void opening() {
        start();
        row("80", -22, 1, 80, 10, 0);
        row("80", -22, 1, 80, -1, 0);
        row("80", 0, 1, 80, 3, 0);
        row("80", -98, 1, 80, 3, 0);
        row("81", -22, 0, 81, 3, 3);
        row("81", -22, 0, 81, 1, 10);
        row("82", -22, 1, 82, 4, 0);
        row("82", -22, 1, 82, 10, 0);
        Check.fails("end", Check.NONE, () -> x.end(0, 0, 's'));
        x.tell(0, 0, 81, 1, 1, 3);
        x.step(1);
        Check.is("state", x.end(0, 0, 's'), 'o');
        Check.is("id", x.end(0, 0, 'i'), 1);
        Check.is("other", x.end(0, 0, 'm'), 1);
        Check.is("packets", x.packets(1), 1);
        Check.is("waits", x.waits(0, 0, 's'), 'n');
        Check.is("waits", x.waits(0, 0, 'n'), 0);
        x.step(1);
        Check.fails("not yet", Check.NONE, () -> x.end(1, 0, 's'));
        x.step(1);
        Check.is("state", x.end(1, 0, 's'), 'e');
        Check.is("other", x.end(1, 0, 'm'), 0);
        Check.is("packets", x.packets(0), 1);
        x.step(2);
        Check.is("state", x.end(0, 0, 's'), 'e');
        Check.is("file", x.register(0, 0, 1), 0);
        Check.is("done", x.waits(0, 0, 's'), 'h');
        row("82", 0, 1, 82, 3, 0);
        x.tell(1, 0, 82, 1, 3, 0);
        x.step(1);
        Check.is("waits", x.waits(1, 0, 's'), 'n');
        Check.is("waits", x.waits(1, 0, 'n'), -4);
        // One to the own machine needs a tick each way.
        x.spawn(1, 0, -1);
        Check.is("81", x.does(1, 1, 81, 1, 1, 3), 0);
        Check.is("82", x.waits(1, 0, 's'), 'h');
        Check.is("file", x.register(1, 0, 1), 1);
        Check.is("81 refused", x.does(0, 0, 81, 1, 1, 9), -111);
        Check.text("event", Check.events(x, x.events() - 1), "b1");
        x.cut(0, 1, true);
        int time = x.time();
        x.tell(0, 0, 81, 1, 1, 3);
        x.step(72);
        Check.is("not yet", x.end(0, 1, 's'), 'o');
        x.step(1);
        Check.is("no answer", x.register(0, 0, 1), -110);
        Check.is("time", x.time(), time + 73);
        Check.fails("gone", Check.NONE, () -> x.end(0, 1, 's'));
        // 6 ends.
        x.cut(0, 1, false);
        x.link(0, 1, 1, 0, 0);
        for (int i = 0; i < 3; i++) {
            Check.is("81", x.does(0, 0, 81, 1, 1, 3), 1 + i);
        }
        Check.is("three wait at the port", x.does(0, 0, 81, 1, 1, 3), -111);
        Check.is("no end is free", x.does(1, 1, 81, 1, 1, 3), -23);
        x.does(0, 0, 67, 1, 0, 4);
        x.does(0, 0, 67, 1, 0, 5);
        Check.is("no file number", x.does(0, 0, 81, 1, 1, 3), -24);
        Check.is("22", x.does(1, 0, 22, 1, 0, 0), -1001);
        x.step(2);
        Check.is("others get an X", x.end(0, 1, 's'), 'b');
        Check.is("closed", x.end(0, 0, 's'), 'e');
        Check.fails("end", Check.ARGUMENT, () -> x.end(3, 0, 's'));
        Check.fails("end", Check.ARGUMENT, () -> x.end(0, 0, 'z'));
        Check.fails("end", Check.INDEX, () -> x.end(0, 6, 's'));
        Check.fails("packets", Check.ARGUMENT, () -> x.packets(3));
        x.crash(2);
        Check.fails("end", Check.UNSUPPORTED, () -> x.end(2, 0, 's'));
    }

    private static void cells() {
        start();
        connect();
        for (int i = 0; i < 4; i++) {
            row("53", 1, 0, 53, 0, 65 + i);
        }
        Check.is("not acknowledged", x.end(0, 0, 'o'), 4);
        Check.is("first", x.end(0, 0, 'b'), 0);
        Check.is("came", x.end(1, 0, 'r'), 2);
        Check.is("expects", x.end(1, 0, 'x'), 2);
        Check.is("packets", x.packets(1), 1);
        x.step(1);
        Check.is("first", x.end(0, 0, 'b'), 1);
        Check.is("the fourth is under way", x.packets(1), 1);
        x.step(6);
        Check.is("came", x.end(1, 0, 'r'), 4);
        Check.is("acknowledged", x.end(0, 0, 'o'), 0);
        Check.is("account n", x.account(0, 0, 'n'), 4);
        for (int i = 0; i < 4; i++) {
            row("52", 65 + i, 1, 52, 0, 2);
        }
        x.tell(1, 0, 52, 1, 0, 2);
        x.step(1);
        Check.is("waits", x.waits(1, 0, 's'), 'n');
        Check.is("waits", x.waits(1, 0, 'n'), 0);
        row("51", 0, 0, 51, 0, 0);
        Check.is("closes", x.end(0, 0, 's'), 'c');
        Check.is("the close", x.end(0, 0, 'o'), 1);
        x.step(2);
        Check.is("the end", x.register(1, 0, 1), 0);
        Check.is("the end", x.register(1, 0, 2), 0);
        x.step(2);
        Check.fails("gone", Check.NONE, () -> x.end(0, 0, 's'));
        row("53 to one that is gone", 1, 1, 53, 0, 9);
        x.step(4);
        Check.is("broken by an X", x.end(1, 0, 's'), 'b');
        row("53", -104, 1, 53, 0, 9);
        row("52 of one that closed", 0, 1, 52, 0, 2);
        Check.is("why", x.register(1, 0, 2), 0);
        row("51", 0, 1, 51, 0, 0);
        Check.fails("gone", Check.NONE, () -> x.end(1, 0, 's'));
    }

    private static void losses() {
        start();
        connect();
        x.cut(0, 1, true);
        int from = x.events();
        for (int i = 0; i < 6; i++) {
            row("53", 1, 0, 53, 0, i);
        }
        Check.text("the first three are sent", Check.events(x, from), "l1 l1 l1");
        x.tell(0, 0, 53, 1, 0, 6);
        x.step(1);
        Check.is("the row has 6", x.waits(0, 0, 's'), 'n');
        x.step(65);
        Check.is("stands", x.end(0, 0, 's'), 'e');
        x.step(1);
        Check.is("broken the 6th time", x.end(0, 0, 's'), 'b');
        Check.is("R(a)", x.register(0, 0, 1), -104);
        Check.text("event", Check.events(x, x.events() - 1), "b0");
        Check.text("sent five times more", Check.events(x, from).replace("l1", "l").replace(" ", ""),
            "llllllllllllllllllb0");
        // By draws: z of 0 draws 0, so all is lost with a loss of 1; seed 5 doubles and loses.
        KernelWorks y = new KernelWorks();
        y.link(1, 2, 1, 1, 0);
        y.spawn(1, 0, -1);
        y.tell(1, 0, 81, 1, 2, 0);
        y.step(1);
        Check.text("lost", Check.events(y, 1), "l2");
        Check.is("machine", y.event(1, 'm'), 1);
        Check.is("z", y.seed(0), 12345);
        KernelWorks z = new KernelWorks();
        z.link(1, 2, 1, 0, 9);
        z.spawn(1, 0, -1);
        z.tell(1, 0, 81, 1, 2, 0);
        z.step(1);
        int first = 12345;
        int second = first * 1103515245 + 12345;
        Check.is("z", z.seed(0), second);
        Check.is("twice", z.packets(2), (second >>> 16) % 10 < 9 ? 2 : 1);
        // What arrives where the machine is down is lost, told of that from which it comes.
        KernelWorks d = new KernelWorks();
        d.spawn(1, 0, -1);
        d.crash(2);
        d.tell(1, 0, 81, 1, 2, 0);
        d.step(4);
        Check.text("lost", Check.events(d, 2), "l2");
        Check.is("machine", d.event(2, 'm'), 1);
        Check.is("clock", d.event(2, 't'), 4);
    }

    private static void names() {
        start();
        row("83", -22, 1, 83, 0, 1);
        row("83", -22, 1, 83, 27, 1);
        row("83", -22, 1, 83, 1, 10);
        row("83", -22, 1, 83, 1, -1);
        row("84", -22, 1, 84, 0, 0);
        row("84", -2, 0, 84, 5, 0);
        x.tell(1, 0, 83, 1, 5, 7);
        x.step(1);
        Check.is("waits", x.waits(1, 0, 's'), 'f');
        Check.is("waits", x.waits(1, 0, 'n'), 0);
        x.step(4);
        Check.is("83", x.register(1, 0, 1), 0);
        Check.is("named", x.named(5), 17);
        Check.fails("named", Check.NONE, () -> x.named(6));
        Check.fails("named", Check.ARGUMENT, () -> x.named(0));
        Check.fails("named", Check.ARGUMENT, () -> x.named(27));
        int time = x.time();
        row("84", 17, 1, 84, 5, 0);
        Check.is("there and back", x.time(), time + 5);
        x.crash(0);
        Check.fails("machine 0 is down", Check.NONE, () -> x.named(5));
        row("84 is kept", 17, 1, 84, 5, 0);
        Check.is("without a packet", x.time(), time + 6);
        x.step(57);
        row("84 is kept", 17, 1, 84, 5, 0);
        x.tell(1, 0, 84, 1, 5, 0);
        x.step(64);
        Check.is("kept no more", x.waits(1, 0, 's'), 'f');
        x.step(1);
        Check.is("no answer", x.register(1, 0, 1), -110);
        x.boot(0);
        Check.fails("gone", Check.NONE, () -> x.named(5));
    }

    private static void farFiles() {
        start();
        row("50", 0, 1, 50, 4, 7);
        row("53", 1, 1, 53, 0, 77);
        row("53", 1, 1, 53, 0, 78);
        row("64", 0, 1, 64, 0, 0);
        x.step(60);
        x.does(0, 0, 1, 7, 1, 0);
        row("85 of the own machine", 0, 0, 85, 0, 4);
        Check.is("why", x.register(0, 0, 6), -22);
        row("85", 0, 0, 85, 3, 4);
        row("85", 0, 0, 85, 1, -4);
        row("86", -22, 0, 86, 1, -4);
        row("85 of a missing one", 0, 0, 85, 1, 5);
        Check.is("why", x.register(0, 0, 6), -2);
        row("85 of a directory", 0, 0, 85, 1, 0);
        Check.is("why", x.register(0, 0, 6), -21);
        int time = x.time();
        row("85", 78, 0, 85, 1, 4);
        Check.is("there and back", x.time(), time + 5);
        Check.is("told", x.register(0, 0, 6), 1);
        Check.is("leases", x.leases(1, 1), 1);
        Check.is("copies", x.copies(0), 1);
        x.does(0, 0, 1, 7, 2, 0);
        row("85 behind the end", 0, 0, 85, 1, 4);
        Check.is("told", x.register(0, 0, 6), 0);
        Check.is("from the copy", x.time(), time + 7);
        // Who writes waits till the lease is given back.
        int from = x.events();
        x.tell(1, 0, 53, 1, 0, 79);
        x.step(1);
        Check.is("waits", x.waits(1, 0, 's'), 'v');
        Check.is("waits", x.waits(1, 0, 'n'), 1);
        x.step(2);
        Check.is("copies", x.copies(0), 0);
        x.step(2);
        Check.is("leases", x.leases(1, 1), 0);
        Check.is("written", x.content(1, 1, 2), 79);
        Check.text("events", Check.events(x, from).substring(0, 2), "k1");
        // 86 writes there.
        row("1", 90, 0, 1, 90, 0);
        x.does(0, 0, 1, 6, 90, 0);
        row("86", 1, 0, 86, 1, 4);
        Check.is("written", x.content(1, 1, 2), 90);
        Check.is("account w of who asks", x.account(0, 0, 'w'), 1);
        x.does(0, 0, 1, 7, 80, 0);
        row("86", -22, 0, 86, 1, 4);
        // A lease ends 40 ticks behind; a copy may not be taken then.
        x.does(0, 0, 1, 7, 0, 0);
        time = x.time();
        row("85", 77, 0, 85, 1, 4);
        x.step(37);
        Check.is("copies", x.copies(0), 1);
        Check.is("leases", x.leases(1, 1), 1);
        x.step(1);
        Check.is("copies", x.copies(0), 0);
        Check.is("leases", x.leases(1, 1), 0);
        // Without an answer it is over 80 ticks behind.
        x.cut(0, 1, true);
        x.tell(0, 0, 85, 1, 1, 4);
        x.step(80);
        Check.is("waits", x.waits(0, 0, 's'), 'x');
        x.step(1);
        Check.is("over", x.register(0, 0, 6), -110);
        Check.fails("leases", Check.ARGUMENT, () -> x.leases(3, 0));
        Check.fails("leases", Check.INDEX, () -> x.leases(0, 20));
        Check.fails("copies", Check.ARGUMENT, () -> x.copies(3));
        x.crash(2);
        Check.fails("leases", Check.UNSUPPORTED, () -> x.leases(2, 0));
        Check.fails("copies", Check.UNSUPPORTED, () -> x.copies(2));
    }

    private static void twoReaders() {
        start();
        x.spawn(2, 0, -1);
        x.link(1, 2, 4, 0, 0);
        for (int n = 1; n <= 5; n++) {
            row("50", 0, 1, 50, n, 7);
            row("53", 1, 1, 53, 0, 60 + n);
            row("51", 0, 1, 51, 0, 0);
        }
        row("50", 0, 1, 50, 1, 7);
        row("64", 0, 1, 64, 0, 0);
        x.step(80);
        row("85", 61, 0, 85, 1, 1);
        row("85", 61, 2, 85, 1, 1);
        Check.is("leases", x.leases(1, 1), 5);
        int from = x.events();
        x.tell(1, 0, 53, 1, 0, 99);
        x.step(1);
        Check.text("both are told", Check.events(x, from), "k1 k1");
        x.step(4);
        Check.is("one is back", x.leases(1, 1), 4);
        Check.is("still waits", x.waits(1, 0, 's'), 'v');
        x.step(3);
        Check.is("still waits", x.waits(1, 0, 's'), 'v');
        x.step(1);
        Check.is("leases", x.leases(1, 1), 0);
        Check.is("written", x.content(1, 1, 0), 99);
        // A lease that is given anew is told anew.
        row("85", 99, 0, 85, 1, 1);
        from = x.events();
        row("54", 0, 1, 54, 0, 0);
        row("53", 1, 1, 53, 0, 98);
        Check.text("told", Check.events(x, from).substring(0, 2), "k1");
        row("54", 0, 1, 54, 0, 0);
        row("53", 1, 1, 53, 0, 99);
        x.step(80);
        // At most four copies; the one that came first goes.
        for (int n = 1; n <= 5; n++) {
            row("85", n == 1 ? 99 : 60 + n, 0, 85, 1, n);
        }
        Check.is("copies", x.copies(0), 4);
        int time = x.time();
        row("85 of a copy", 62, 0, 85, 1, 2);
        Check.is("time", x.time(), time + 1);
        row("85 without one", 99, 0, 85, 1, 1);
        Check.is("time", x.time() > time + 2, true);
        // Just one thread has a request; others wait, too.
        x.spawn(0, 0, -1);
        x.step(60);
        x.tell(0, 0, 85, 1, 1, 3);
        x.tell(0, 1, 85, 1, 1, 3);
        x.step(2);
        Check.is("packets", x.packets(1), 1);
        Check.is("waits", x.waits(0, 1, 's'), 'x');
        Check.is("waits", x.waits(0, 1, 'n'), 1);
        x.step(4);
        Check.is("taken", x.register(0, 0, 1), 63);
        Check.is("from the copy", x.register(0, 1, 1), 63);
    }

    private static void serverAndDisc() {
        // The server asks for the blocks of a file that are not held; that counts for nobody.
        start();
        row("50", 0, 1, 50, 4, 7);
        row("53", 1, 1, 53, 0, 77);
        row("54", 0, 1, 54, 0, 20);
        row("53", 1, 1, 53, 0, 78);
        row("64", 0, 1, 64, 0, 0);
        x.step(60);
        x.crash(1);
        x.boot(1);
        x.does(0, 0, 1, 7, 20, 0);
        x.tell(0, 0, 85, 1, 1, 4);
        x.step(3);
        Check.is("the first block is asked", x.disc(1, 'b'), 31);
        x.step(30);
        Check.is("register", x.register(0, 0, 1), 78);
        Check.is("held", x.held(1, 31), true);
        Check.is("held", x.held(1, 33), true);
        Check.is("account r", x.account(1, 0, 'r'), 0);
        // A process that ends closes its connections.
        start();
        connect();
        Check.is("22", x.does(1, 0, 22, 0, 0, 0), -1001);
        Check.is("closes", x.end(1, 0, 's'), 'c');
        row("the end", 0, 0, 52, 0, 2);
        Check.is("why", x.register(0, 0, 2), 0);
        // Rights count for who asks.
        start();
        x.spawn(0, 4, -1);
        row("50", 0, 1, 50, 4, 7);
        row("53", 1, 1, 53, 0, 77);
        row("61", 0, 1, 61, 4, 0600);
        Check.is("85", x.does(0, 1, 85, 1, 1, 4), 0);
        Check.is("why", x.register(0, 1, 6), -1);
        Check.is("86", x.does(0, 1, 86, 1, 1, 4), -1);
        row("85", 77, 0, 85, 1, 4);
        Check.is("a copy is for one user", x.does(0, 1, 85, 1, 1, 4), 0);
        row("61", 0, 1, 61, 4, 0604);
        Check.is("85", x.does(0, 1, 85, 1, 1, 4), 77);
    }

    private static void answersThatAreLost() {
        // The answer is lost: the request is sent again behind 20 ticks, and answered so again.
        start();
        row("50", 0, 1, 50, 4, 7);
        row("53", 1, 1, 53, 0, 77);
        row("64", 0, 1, 64, 0, 0);
        x.step(60);
        x.does(0, 0, 1, 6, 55, 0);
        x.tell(0, 0, 86, 1, 1, 4);
        x.step(2);
        x.cut(0, 1, true);
        int from = x.events();
        x.step(1);
        Check.is("written", x.content(1, 1, 0), 55);
        Check.text("the answer is lost", Check.events(x, from), "l0");
        x.cut(0, 1, false);
        Check.is("54", x.does(1, 0, 54, 1, 0, 0), 0);
        Check.is("53", x.does(1, 0, 53, 1, 0, 66), 1);
        x.step(19);
        Check.is("waits", x.waits(0, 0, 's'), 'x');
        x.step(1);
        Check.is("answered again", x.register(0, 0, 1), 1);
        Check.is("not written again", x.content(1, 1, 0), 66);
        // Connections wait at a port in the order in which they came.
        start();
        x.spawn(2, 0, -1);
        x.link(1, 2, 1, 0, 0);
        row("80", 0, 1, 80, 3, 0);
        x.tell(0, 0, 81, 1, 1, 3);
        x.tell(2, 0, 81, 1, 1, 3);
        x.step(8);
        row("82", 0, 1, 82, 3, 0);
        Check.is("53", x.does(2, 0, 53, 1, 0, 9), 1);
        x.step(4);
        row("52 of the first", 9, 1, 52, 0, 2);
        Check.is("other", x.end(1, 0, 'm'), 2);
        Check.is("another waits", x.end(1, 1, 'm'), 0);
        row("82", 1, 1, 82, 3, 0);
        // A thread that is gone gives up its call.
        start();
        x.tell(0, 0, 81, 1, 1, 3);
        x.step(1);
        Check.is("asks", x.end(0, 0, 's'), 'o');
        x.spawn(0, 0, -1);
        Check.is("27", x.does(0, 1, 27, 1, 1, 3), 0);
        Check.fails("gone", Check.NONE, () -> x.end(0, 0, 's'));
    }

    private static void twiceAndAgain() {
        // All arrives twice or more: nothing is read twice.
        start();
        x.link(0, 1, 2, 0, 9);
        row("80", 0, 1, 80, 3, 0);
        x.tell(0, 0, 81, 1, 1, 3);
        x.step(20);
        Check.is("just one end", x.end(1, 0, 's'), 'e');
        Check.fails("just one end", Check.NONE, () -> x.end(1, 1, 's'));
        row("82", 0, 1, 82, 3, 0);
        for (int i = 0; i < 5; i++) {
            row("53", 1, 0, 53, 0, 70 + i);
        }
        x.step(40);
        for (int i = 0; i < 5; i++) {
            row("52", 70 + i, 1, 52, 0, 2);
        }
        Check.is("came", x.end(1, 0, 'r'), 0);
        // Half of all is lost: all is sent again till it came, also the close.
        start();
        connect();
        x.link(0, 1, 2, 5, 3);
        x.seed(77);
        for (int i = 0; i < 6; i++) {
            row("53", 1, 0, 53, 0, 80 + i);
        }
        row("51", 0, 0, 51, 0, 0);
        for (int i = 0; i < 6; i++) {
            x.tell(1, 0, 52, 1, 0, 2);
            for (int n = 0; n < 60 && !(x.thread(1, 0, 's') == 1 && x.waits(1, 0, 's') == 'h'); n++) {
                x.step(3);
            }
            Check.is("52", x.register(1, 0, 1), 80 + i);
        }
    }

    private static void grace() {
        start();
        row("50", 0, 1, 50, 4, 7);
        row("53", 1, 1, 53, 0, 77);
        row("64", 0, 1, 64, 0, 0);
        row("85", 77, 0, 85, 1, 4);
        x.crash(1);
        x.boot(1);
        x.spawn(1, 0, -1);
        Check.is("no lease", x.leases(1, 1), 0);
        row("50", 0, 1, 50, 4, 7);
        x.tell(1, 0, 53, 1, 0, 78);
        x.step(1);
        Check.is("waits", x.waits(1, 0, 's'), 'v');
        Check.is("a grace", x.waits(1, 0, 'n'), -1);
        row("the copy stays", 77, 0, 85, 1, 4);
        while (x.waits(1, 0, 's') == 'v') {
            x.step(1);
        }
        int end = 0;
        for (int i = 0; i < x.events(); i++) {
            end = x.event(i, 's') == 'v' ? x.event(i, 't') + 40 : end;
        }
        Check.is("till the lease would have ended", x.time(), end);
    }

    public static void main(String[] args) {
        opening();
        cells();
        losses();
        names();
        farFiles();
        twoReaders();
        serverAndDisc();
        answersThatAreLost();
        twiceAndAgain();
        grace();
        Check.end("NetworkTest");
    }
}
