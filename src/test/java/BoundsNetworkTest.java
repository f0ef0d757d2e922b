/** Part 8 of the terms, sentence by sentence where it names a bound: packets, connections, names, far files, leases. */
public final class BoundsNetworkTest {
    private static KernelWorks x;

    /** Driven processes of user 0, one on each machine, with links that need one tick. */
    private static void start() {
        x = new KernelWorks();
        for (int m = 0; m < 3; m++) {
            x.spawn(m, 0, -1);
            x.link(m, (m + 1) % 3, 1, 0, 0);
        }
    }

    private static void row(String what, int due, int machine, int op, int b, int c) {
        Check.is(what, Check.row(x, machine, 0, op, 1, b, c), due);
    }

    private static void set(int machine, int register, int value) {
        x.does(machine, 0, 1, register, value, 0);
    }

    private static String ends(int machine) {
        StringBuilder text = new StringBuilder();
        for (int e = 0; e < 6; e++) {
            try {
                text.append((char) x.end(machine, e, 's'));
            } catch (java.util.NoSuchElementException none) {
                text.append('-');
            }
        }
        return text.toString();
    }

    /** A connection from machine 0 to the port 3 of machine 1; both have it as the file 0. */
    private static void connect() {
        start();
        row("80", 0, 1, 80, 3, 0);
        row("81", 0, 0, 81, 1, 3);
        row("82", 0, 1, 82, 3, 0);
    }

    /** "it arrives the delay later"; "One to the own machine arrives in the next tick, without draws." */
    private static void delays() {
        for (int delay = 1; delay <= 9; delay++) {
            start();
            x.link(0, 1, delay, 0, 0);
            x.tell(0, 0, 81, 1, 1, 3);
            x.step(1);
            Check.is("under way", x.packets(1), 1);
            for (int i = 1; i < delay; i++) {
                x.step(1);
                Check.is("not yet, with " + delay, x.packets(1), 1);
            }
            x.step(1);
            Check.is("it arrived with " + delay, x.packets(1), 0);
        }
        start();
        int z = x.seed(5);
        Check.is("z", z, 0);
        x.tell(0, 0, 81, 1, 0, 3);
        x.step(1);
        Check.is("to itself", x.packets(0), 1);
        x.step(1);
        Check.is("the answer to itself", x.packets(0), 1);
        Check.is("without draws", x.seed(5), 5);
        x.step(2);
        Check.is("R(a)", x.register(0, 0, 1), -111);
        Check.is("without draws", x.seed(0), 5);
    }

    private static int zFor(int first, int second) {
        // A z whose first two draws are these.
        for (int z = 0; z < 100000; z++) {
            int one = z * 1103515245 + 12345;
            int two = one * 1103515245 + 12345;
            if ((one >>> 16) % 10 == first && (two >>> 16) % 10 == second) {
                return z;
            }
        }
        return -1;
    }

    /** "there is a draw, and if that is less than the loss, it is lost; .. if that is less than the doubling ..". */
    private static void draws() {
        for (int draw = 0; draw <= 9; draw++) {
            for (int loss : new int[] {0, draw, draw + 1, 9}) {
                if (loss > 9) {
                    continue;
                }
                start();
                x.link(0, 1, 4, loss, 0);
                x.seed(zFor(draw, 5));
                x.tell(0, 0, 81, 1, 1, 3);
                x.step(1);
                Check.is("draw " + draw + ", loss " + loss, x.packets(1), draw < loss ? 0 : 1);
                int one = zFor(draw, 5) * 1103515245 + 12345;
                Check.is("one draw or two", x.seed(0), draw < loss ? one : one * 1103515245 + 12345);
            }
            for (int twice : new int[] {0, draw, draw + 1, 9}) {
                if (twice > 9) {
                    continue;
                }
                start();
                x.link(0, 1, 4, 0, twice);
                x.seed(zFor(5, draw));
                x.tell(0, 0, 81, 1, 1, 3);
                x.step(1);
                Check.is("draw " + draw + ", doubling " + twice, x.packets(1), draw < twice ? 2 : 1);
                x.step(4);
                Check.is("the same arrives 2 ticks later", x.packets(1), draw < twice ? 1 : 0);
                x.step(1);
                Check.is("not 1 tick later", x.packets(1), draw < twice ? 1 : 0);
                x.step(1);
                Check.is("2 ticks later", x.packets(1), 0);
            }
        }
        // Cut, without a draw; the event tells the machine to which it goes, of that from which it comes.
        start();
        x.cut(1, 0, true);
        x.seed(7);
        x.tell(0, 0, 81, 1, 1, 3);
        x.step(1);
        Check.is("no draw", x.seed(0), 7);
        Check.text("lost", Check.events(x, 3), "l1");
        Check.is("told of machine 0", x.event(3, 'm'), 0);
        // What is under way as the link is cut arrives.
        start();
        x.link(0, 2, 5, 0, 0);
        x.tell(2, 0, 81, 1, 0, 3);
        x.step(1);
        x.cut(2, 0, true);
        x.step(5);
        Check.text("the answer is lost", Check.events(x, 3), "l2");
    }

    /** "80 the process listens at the port V(b), 0 to 9 (-22): R(a) is 0, -98 if there is one that does." */
    private static void ports() {
        start();
        x.spawn(0, 0, -1);
        for (int port : new int[] {-1, 10, Integer.MIN_VALUE, Integer.MAX_VALUE}) {
            row("80 of " + port, -22, 0, 80, port, 0);
            row("82 of " + port, -22, 0, 82, port, 0);
            row("81 to " + port, -22, 0, 81, 1, port);
        }
        for (int machine : new int[] {-1, 3, Integer.MIN_VALUE, Integer.MAX_VALUE}) {
            row("81 to the machine " + machine, -22, 0, 81, machine, 3);
        }
        for (int port : new int[] {0, 9}) {
            row("82 where nobody listens", -22, 0, 82, port, 0);
            row("80 of " + port, 0, 0, 80, port, 0);
            row("80 again", -98, 0, 80, port, 0);
            Check.is("80 by another one", x.does(0, 1, 80, 1, port, 0), -98);
            Check.is("82 by another one", x.does(0, 1, 82, 1, port, 0), -22);
        }
        row("on another machine", 0, 1, 80, 9, 0);
        x.does(0, 0, 22, 0, 0, 0);
        Check.is("a port is closed when its process ends", x.does(0, 1, 80, 1, 9, 0), 0);
    }

    /** "-24 without a free file number, -23 without a free end or if 16 are open". */
    private static void noRoom() {
        connect();
        for (int e = 1; e <= 2; e++) {
            row("three wait", e, 0, 81, 1, 3);
        }
        row("82", 1, 1, 82, 3, 0);
        for (int e = 3; e <= 5; e++) {
            row("82", e - 1, 1, 82, 3, 0);
            row("up to six ends", e, 0, 81, 1, 3);
        }
        Check.text("six ends", ends(0), "eeeeee");
        row("-24", -24, 0, 81, 1, 3);
        row("51", 0, 0, 51, 0, 0);
        row("54 of a connection", -29, 0, 54, 1, 0);
        x.step(20);
        Check.text("it closes, and is gone", ends(0), "-eeeee");
        row("an end, and a number", -111, 0, 81, 1, 9);
    }

    private static void noRoomForEnds() {
        // 6 ends: a seventh is refused, with a free number.
        connect();
        for (int e = 1; e <= 5; e++) {
            if (e == 4) {
                row("82", 1, 1, 82, 3, 0);
                row("82", 2, 1, 82, 3, 0);
            }
            row("81", e, 0, 81, 1, 3);
        }
        x.spawn(0, 0, -1);
        Check.is("no free end", x.does(0, 1, 81, 1, 1, 3), -23);
        Check.is("-22 ahead of that", x.does(0, 1, 81, 1, 1, 10), -22);
        // The other side has 6 as well: 1, 2, 3 are files, 4 to 6 wait at the port.
        Check.text("ends", ends(1), "eeeeee");
        x.spawn(1, 0, -1);
        Check.is("no free end", x.does(1, 1, 81, 1, 2, 3), -23);
        // One that is asked for there without a free end is refused by an X.
        row("80", 0, 2, 80, 1, 0);
        Check.is("81 to one without an end", Check.row(x, 2, 0, 81, 1, 1, 3), -111);
        // 16 open files.
        start();
        x.spawn(0, 0, -1);
        x.spawn(0, 0, -1);
        for (int f = 0; f < 16; f++) {
            Check.is("50", x.does(0, f / 6, 50, 1, 1, 7), f % 6);
        }
        x.spawn(0, 0, -1);
        x.does(0, 3, 80, 1, 3, 0);
        Check.is("16 are open", x.does(0, 3, 81, 1, 0, 3), -23);
        Check.is("51", x.does(0, 0, 51, 1, 0, 0), 0);
        Check.is("15 are open", x.does(0, 3, 81, 1, 0, 3), 0);
        Check.is("82 with 16", x.does(0, 3, 82, 1, 3, 0), -23);
        Check.is("51", x.does(0, 0, 51, 1, 1, 0), 0);
        Check.is("the connection stays", x.does(0, 3, 82, 1, 3, 0), 1);
    }

    /** "when it stands, it is a file with the lowest free number (-24, -23 as above; then the end closes)". */
    private static void numbersGoneMeanwhile() {
        // Two threads of a process: the other one takes the last number while the connection is asked for.
        x = new KernelWorks();
        x.link(0, 1, 4, 0, 0);
        Check.program(x, 0, 66, 0, 0, 0, 66, 0, 0, 0, 50, 0, 1, 7, 24, 0, 6, 0, 81, 1, 1, 3, 33, 99, 0, 0,
            33, 5, 0, 0, 50, 2, 1, 1, 33, 99, 0, 0);
        x.spawn(1, 0, -1);
        x.does(1, 0, 80, 1, 3, 0);
        x.spawn(0, 0, 0);
        x.step(30);
        Check.is("the other one has the number 5", x.register(0, 1, 2), 5);
        Check.is("-24", x.register(0, 0, 1), -24);
        Check.text("the end closes", ends(0).substring(0, 1).replace('c', '-'), "-");
        x.step(30);
        Check.text("and is gone", ends(0), "------");
    }

    /** "if nobody listens, 3 connections wait at the port, or no end is free: an 'X'". */
    private static void threeAtAPort() {
        start();
        row("nobody listens", -111, 0, 81, 1, 3);
        row("80", 0, 1, 80, 3, 0);
        row("nobody listens there", -111, 0, 81, 1, 4);
        for (int e = 0; e < 3; e++) {
            row("81", e, 0, 81, 1, 3);
        }
        row("a fourth", -111, 0, 81, 1, 3);
        row("82", 0, 1, 82, 3, 0);
        row("now there is room", 3, 0, 81, 1, 3);
        row("82", 1, 1, 82, 3, 0);
        Check.is("in their order", x.end(1, 1, 'i'), 2);
        Check.is("an id for each one that is made", x.end(0, 0, 'i') * 100 + x.end(0, 3, 'i'), 307);
    }

    /** "a row of at most 6 cells is not acknowledged .. The first 3 of this row are under way". */
    private static void rowsOfCells() {
        connect();
        x.cut(0, 1, true);
        int from = x.events();
        for (int i = 0; i < 6; i++) {
            row("53", 1, 0, 53, 0, 10 + i);
            Check.is("not acknowledged", x.end(0, 0, 'o'), i + 1);
            Check.is("lost packets", x.events() - from, Math.min(3, i + 1));
        }
        x.tell(0, 0, 53, 1, 0, 16);
        x.step(1);
        Check.text("the row has 6", Check.waits(x, 0, 0), "n0");
        Check.is("the account", x.account(0, 0, 'n'), 6);
        x.cut(0, 1, false);
        x.step(40);
        Check.text("it came into the row", Check.waits(x, 0, 0), "h0");
        Check.is("6 came", x.end(1, 0, 'r'), 6);
        Check.is("the seventh is not taken", x.end(1, 0, 'x'), 6);
        Check.is("it is not acknowledged", x.end(0, 0, 'o') * 100 + x.end(0, 0, 'b'), 106);
        row("52", 10, 1, 52, 0, 2);
        x.step(20);
        Check.is("now it is", x.end(0, 0, 'o'), 0);
        Check.is("6 are not read", x.end(1, 0, 'r'), 6);
        Check.is("the next one is expected", x.end(1, 0, 'x'), 7);
        for (int i = 1; i < 7; i++) {
            row("52", 10 + i, 1, 52, 0, 2);
        }
        x.tell(1, 0, 52, 1, 0, 2);
        x.step(1);
        Check.text("none is there", Check.waits(x, 1, 0), "n0");
    }

    /** "'F' the close: likewise, but there is room always"; "the close counts as one more behind them". */
    private static void closing() {
        connect();
        for (int i = 0; i < 6; i++) {
            row("53", 1, 0, 53, 0, 10 + i);
        }
        x.step(6);
        Check.is("all are acknowledged", x.end(0, 0, 'o'), 0);
        row("51", 0, 0, 51, 0, 0);
        Check.is("the close", x.end(0, 0, 'o'), 1);
        Check.is("it closes", x.end(0, 0, 's'), 'c');
        x.step(2);
        Check.text("it is gone", ends(0), "------");
        Check.is("6 are not read, and the close came", x.end(1, 0, 'r') * 100 + x.end(1, 0, 'x'), 607);
        for (int i = 0; i < 6; i++) {
            row("52", 10 + i, 1, 52, 0, 2);
            Check.is("R(c)", x.register(1, 0, 2), 1);
        }
        row("the end", 0, 1, 52, 0, 2);
        Check.is("R(c)", x.register(1, 0, 2), 0);
        // A close behind six cells: 7 are not acknowledged.
        connect();
        x.cut(0, 1, true);
        for (int i = 0; i < 6; i++) {
            row("53", 1, 0, 53, 0, 10 + i);
        }
        row("51", 0, 0, 51, 0, 0);
        Check.is("cells and the close", x.end(0, 0, 'o'), 7);
        x.cut(0, 1, false);
        x.step(60);
        Check.text("gone", ends(0), "------");
        Check.is("all came", x.end(1, 0, 'r') * 100 + x.end(1, 0, 'x'), 607);
        // One that closes drops what comes, as if it was read.
        connect();
        x.cut(0, 1, true);
        row("51", 0, 1, 51, 0, 0);
        for (int i = 0; i < 6; i++) {
            row("53", 1, 0, 53, 0, 10 + i);
        }
        x.cut(0, 1, false);
        x.step(14);
        Check.is("nothing is kept", ends(1).charAt(0) == '-' || x.end(1, 0, 'r') == 0, true);
        Check.is("it closed", x.end(0, 0, 'x'), 1);
    }

    /** "due 12 ticks later .. for the 6th time .. it is broken (one that closes is gone)". */
    private static void dues() {
        // An 'O': 5 times more, each 12 ticks behind; broken 72 ticks behind the first.
        start();
        x.cut(0, 1, true);
        int from = x.events();
        x.tell(0, 0, 81, 1, 1, 3);
        x.step(1);
        for (int n = 1; n <= 5; n++) {
            x.step(11);
            Check.is("not yet", x.events() - from, n);
            x.step(1);
            Check.is("sent again", x.events() - from, n + 1);
        }
        x.step(11);
        Check.text("it asks", ends(0), "o-----");
        x.step(1);
        Check.text("broken, and gone", ends(0), "------");
        Check.is("R(a)", x.register(0, 0, 1), -110);
        Check.text("event", Check.events(x, from), "l1 l1 l1 l1 l1 l1 b0");
        // A cell; what is acknowledged makes it count anew.
        connect();
        x.step(20);
        x.cut(0, 1, true);
        row("53", 1, 0, 53, 0, 5);
        int sent = x.time();
        x.step(71);
        Check.is("stands", x.end(0, 0, 's'), 'e');
        x.step(1);
        Check.is("broken", x.end(0, 0, 's'), 'b');
        Check.is("behind 72 ticks", x.time() - sent, 72);
        row("53", -104, 0, 53, 0, 6);
        row("52", 0, 0, 52, 0, 2);
        Check.is("why", x.register(0, 0, 2), -104);
        // One that closes is gone, without an event.
        connect();
        x.step(20);
        x.cut(0, 1, true);
        from = x.events();
        row("51", 0, 0, 51, 0, 0);
        x.step(71);
        Check.text("closes", ends(0), "c-----");
        x.step(1);
        Check.text("gone", ends(0), "------");
        Check.text("no event", Check.events(x, from), "l1 l1 l1 l1 l1 l1");
        // With the link mended behind five times, the count begins anew.
        connect();
        x.step(20);
        x.cut(0, 1, true);
        row("53", 1, 0, 53, 0, 5);
        x.step(59);
        x.cut(0, 1, false);
        x.step(1);
        row("53", 1, 0, 53, 0, 6);
        x.step(3);
        Check.is("acknowledged", x.end(0, 0, 'o'), 0);
        x.cut(0, 1, true);
        row("53", 1, 0, 53, 0, 7);
        x.step(71);
        Check.is("stands", x.end(0, 0, 's'), 'e');
        x.step(1);
        Check.is("broken", x.end(0, 0, 's'), 'b');
    }

    /** "83 the name V(b) is the port V(c), 0 to 9 (otherwise -22) .. 84 .. -2 if nobody gave it; -22 if it is no name." */
    private static void names() {
        start();
        for (int name : new int[] {-1, 0, 27, Integer.MIN_VALUE, Integer.MAX_VALUE}) {
            row("83 of " + name, -22, 1, 83, name, 3);
            row("84 of " + name, -22, 1, 84, name, 0);
        }
        for (int port : new int[] {-1, 10, Integer.MIN_VALUE, Integer.MAX_VALUE}) {
            row("83 of the port " + port, -22, 1, 83, 5, port);
        }
        for (int name : new int[] {1, 26}) {
            row("84 of " + name, -2, 1, 84, name, 0);
            row("83 of " + name, 0, 1, 83, name, 0);
            Check.is("named", x.named(name), 10);
            row("84 of " + name, 10, 2, 84, name, 0);
            row("83 anew", 0, 2, 83, name, 9);
            Check.is("named", x.named(name), 29);
            row("84 of machine 0", 29, 0, 84, name, 0);
            row("kept on the asking machine", 10, 2, 84, name, 0);
        }
        row("84 takes no V(c)", 29, 0, 84, 1, 77);
    }

    /** "taken without a packet as long as T is less than 60 above that at which it came." */
    private static void keptNames() {
        start();
        row("83", 0, 1, 83, 5, 3);
        x.tell(2, 0, 84, 1, 5, 0);
        x.step(3);
        Check.is("it came now", x.register(2, 0, 1), 13);
        int came = x.time();
        row("83", 0, 1, 83, 5, 4);
        x.step(came + 58 - x.time());
        row("59 above", 13, 2, 84, 5, 0);
        Check.is("without a packet", x.time(), came + 59);
        row("60 above", 14, 2, 84, 5, 0);
        Check.is("with packets", x.time(), came + 62);
        // -2 is not kept.
        row("84", -2, 2, 84, 6, 0);
        row("83", 0, 1, 83, 6, 1);
        row("84", 11, 2, 84, 6, 0);
    }

    /** "Every 16 ticks without an answer it is sent again, 4 times in all; 16 ticks behind the last one R(a) is -110." */
    private static void requestsForNames() {
        start();
        x.cut(0, 1, true);
        int from = x.events();
        x.tell(1, 0, 84, 1, 5, 0);
        x.step(1);
        for (int n = 1; n <= 3; n++) {
            x.step(15);
            Check.is("not yet", x.events() - from, n);
            x.step(1);
            Check.is("again", x.events() - from, n + 1);
        }
        x.step(15);
        Check.text("it waits", Check.waits(x, 1, 0), "f0");
        x.step(1);
        Check.is("R(a)", x.register(1, 0, 1), -110);
        Check.is("4 times in all", x.events() - from, 4);
        // An answer to the last one counts.
        x.tell(1, 0, 84, 1, 5, 0);
        x.step(1 + 47);
        x.cut(0, 1, false);
        x.step(3);
        Check.is("R(a)", x.register(1, 0, 1), -2);
    }

    private static void farFile() {
        start();
        row("50", 0, 1, 50, 4, 7);
        row("53", 1, 1, 53, 0, 70);
        row("53", 1, 1, 53, 0, 71);
        row("64", 0, 1, 64, 0, 0);
        x.step(60);
    }

    /** "85 .. -22 if V(b) is not another machine, V(c) or register 7 is below 0"; "at its end and behind it both are 0". */
    private static void farReads() {
        farFile();
        for (int m : new int[] {-1, 0, 3, Integer.MIN_VALUE, Integer.MAX_VALUE}) {
            row("85 of the machine " + m, 0, 0, 85, m, 4);
            Check.is("why", x.register(0, 0, 6), -22);
            row("86 of the machine " + m, -22, 0, 86, m, 4);
        }
        for (int p : new int[] {-1, Integer.MIN_VALUE}) {
            row("85 of the path " + p, 0, 0, 85, 1, p);
            Check.is("why", x.register(0, 0, 6), -22);
            row("86 of the path " + p, -22, 0, 86, 1, p);
        }
        for (int cell : new int[] {-1, Integer.MIN_VALUE}) {
            set(0, 7, cell);
            row("85 of the cell " + cell, 0, 0, 85, 1, 4);
            Check.is("why", x.register(0, 0, 6), -22);
        }
        int[][] due = {{0, 70, 1}, {1, 71, 1}, {2, 0, 0}, {79, 0, 0}, {80, 0, 0}, {Integer.MAX_VALUE, 0, 0}};
        for (int[] d : due) {
            set(0, 7, d[0]);
            row("85 of the cell " + d[0], d[1], 0, 85, 1, 4);
            Check.is("told", x.register(0, 0, 6), d[2]);
        }
        set(0, 7, 0);
        int[][] why = {{0, -21}, {5, -2}, {27, -22}, {Check.path(4, 1), -20}};
        for (int[] w : why) {
            row("85 of the path " + w[0], 0, 0, 85, 1, w[0]);
            Check.is("why", x.register(0, 0, 6), w[1]);
            row("86 of the path " + w[0], w[1], 0, 86, 1, w[0]);
        }
    }

    /** "86 the cell with the number in register 7, 0 to 79, of that file becomes what register 6 is". */
    private static void farWrites() {
        farFile();
        for (int cell : new int[] {-1, 80, Integer.MIN_VALUE, Integer.MAX_VALUE}) {
            set(0, 7, cell);
            row("86 of the cell " + cell, -22, 0, 86, 1, 4);
        }
        for (int cell : new int[] {0, 1, 2, 79}) {
            set(0, 7, cell);
            set(0, 6, 500 + cell);
            row("86 of the cell " + cell, 1, 0, 86, 1, 4);
            Check.is("written", x.content(1, 1, cell), 500 + cell);
        }
        Check.is("the account of who asks", x.account(0, 0, 'w'), 4);
        Check.is("not there", x.account(1, 0, 'w'), 2);
        // "-1 if the user may not write", read: for the user who asks.
        x.spawn(0, 1, -1);
        Check.is("86 by user 1", x.does(0, 1, 86, 1, 1, 4), -1);
        Check.is("85 by user 1", x.does(0, 1, 85, 1, 1, 4), 500);
        row("61", 0, 1, 61, 4, 0600);
        x.step(60);
        Check.is("85 by user 1", x.does(0, 1, 85, 1, 1, 4), 0);
        Check.is("why", x.register(0, 1, 6), -1);
        // -69 as by 53.
        x.user(2, 0, 1, 0, 20);
        row("62", 0, 1, 62, 4, 22);
        row("65", 0, 1, 65, 4, 0);
        set(0, 7, 0);
        row("86 above a quota", -69, 0, 86, 1, 4);
    }

    /** "if its lease ends behind T"; "a lease of this inode for this machine till T + 40". */
    private static void leases() {
        farFile();
        set(0, 7, 0);
        x.tell(0, 0, 85, 1, 1, 4);
        x.step(2);
        int given = x.event(x.events() - 1, 't');
        Check.text("given", Check.events(x, x.events() - 1), "v1");
        x.step(1);
        Check.is("85", x.register(0, 0, 1), 70);
        x.step(given + 38 - x.time());
        row("39 behind", 70, 0, 85, 1, 4);
        Check.is("at", x.time(), given + 39);
        Check.is("from the copy", x.leases(1, 1) * 10 + x.copies(0), 11);
        x.tell(0, 0, 85, 1, 1, 4);
        x.step(1);
        Check.is("40 behind", x.leases(1, 1) * 10 + x.copies(0), 0);
        Check.text("asked anew", Check.waits(x, 0, 0), "x0");
        x.step(2);
        Check.is("85", x.register(0, 0, 1), 70);
        Check.is("a new lease", x.leases(1, 1) * 10 + x.copies(0), 11);
    }

    /** "a machine has at most 4, those too that may not be taken any more; the one that came first goes". */
    private static void copies() {
        start();
        for (int n = 1; n <= 6; n++) {
            row("50", 0, 1, 50, n, 7);
            row("53", 1, 1, 53, 0, 60 + n);
            row("51", 0, 1, 51, 0, 0);
        }
        row("64", 0, 1, 64, 0, 0);
        x.step(80);
        set(0, 7, 0);
        for (int n = 1; n <= 4; n++) {
            row("85", 60 + n, 0, 85, 1, n);
            Check.is("copies", x.copies(0), n);
        }
        int time = x.time();
        row("the first is there", 61, 0, 85, 1, 1);
        Check.is("at once", x.time(), time + 1);
        row("a fifth", 65, 0, 85, 1, 5);
        Check.is("4 at most", x.copies(0), 4);
        time = x.time();
        row("the second is there", 62, 0, 85, 1, 2);
        Check.is("at once", x.time(), time + 1);
        row("the first is not", 61, 0, 85, 1, 1);
        Check.is("not at once", x.time(), time + 4);
        time = x.time();
        row("the second went for it", 62, 0, 85, 1, 2);
        Check.is("not at once", x.time(), time + 3);
        // A new one for the same came last: 4, 5, 1, 2 are there; 4 is asked anew behind its end.
        x.step(50);
        Check.is("none may be taken", x.copies(0), 0);
        row("4 anew, in place of it", 64, 0, 85, 1, 4);
        row("6: the first goes, that is 5", 66, 0, 85, 1, 6);
        row("3: then 1", 63, 0, 85, 1, 3);
        row("5: then 2", 65, 0, 85, 1, 5);
        time = x.time();
        row("4 is there", 64, 0, 85, 1, 4);
        Check.is("at once", x.time(), time + 1);
        // For another user it is another one.
        x.spawn(0, 1, -1);
        time = x.time();
        Check.is("85 by user 1", x.does(0, 1, 85, 1, 1, 4), 64);
        Check.is("not at once", x.time(), time + 3);
    }

    /** "Every 20 ticks it is sent again, 4 times in all; 20 ticks behind the last one it is over with -110". */
    private static void requestsForFiles() {
        farFile();
        x.cut(0, 1, true);
        int from = x.events();
        x.tell(0, 0, 85, 1, 1, 4);
        x.step(1);
        for (int n = 1; n <= 3; n++) {
            x.step(19);
            Check.is("not yet", x.events() - from, n);
            x.step(1);
            Check.is("again", x.events() - from, n + 1);
        }
        x.step(19);
        Check.text("it waits", Check.waits(x, 0, 0), "x0");
        x.step(1);
        Check.is("R(a)", x.register(0, 0, 1), 0);
        Check.is("why", x.register(0, 0, 6), -110);
        Check.is("4 times in all", x.events() - from, 4);
        row("86", -110, 0, 86, 1, 4);
        // Just one thread of a machine has such a request; who waits becomes ready as it is over.
        x.spawn(0, 0, -1);
        x.tell(0, 0, 85, 1, 1, 4);
        x.tell(0, 1, 85, 1, 2, 4);
        x.step(2);
        Check.is("just one", x.packets(1) + x.packets(2), 0);
        Check.text("it waits, too", Check.waits(x, 0, 1), "x1");
        x.step(79);
        Check.is("then the other one asks", x.packets(2) + (Check.waits(x, 0, 1).equals("ready") ? 1 : 0) > 0, true);
        x.step(6);
        Check.is("why", x.register(0, 1, 6), -2);
    }

    /** "each of them who was not told so yet is told .. the lease is gone when that arrives, or when it ends". */
    private static void givingBack() {
        farFile();
        set(0, 7, 0);
        row("85", 70, 0, 85, 1, 4);
        int from = x.events();
        x.cut(0, 1, true);
        int given = 0;
        for (int i = 0; i < x.events(); i++) {
            given = x.event(i, 's') == 'v' ? x.event(i, 't') : given;
        }
        row("54", 0, 1, 54, 0, 0);
        x.tell(1, 0, 53, 1, 0, 99);
        x.step(1);
        Check.text("told, and lost", Check.events(x, from), "k1 l0");
        x.step(given + 39 - x.time());
        Check.text("it waits", Check.waits(x, 1, 0), "v1");
        Check.text("told once", Check.events(x, from), "k1 l0");
        Check.is("the copy may be taken", x.copies(0), 1);
        x.step(1);
        Check.is("written as it ends", x.content(1, 1, 0), 99);
        Check.is("the copy may not", x.copies(0), 0);
    }

    /** Each way of writing waits for leases, also where nothing would change; what is refused does not. */
    private static void waysOfWriting() {
        int[][] ways = {{53, 0, 70}, {65, 4, 2}, {65, 4, 1}, {50, 4, 10}, {50, 4, 14}, {11, 0, 0}};
        for (int[] w : ways) {
            farFile();
            row("54", 0, 1, 54, 0, 0);
            if (w[0] == 11) {
                row("68", 0, 1, 68, 0, 0);
            }
            set(0, 7, 0);
            row("85", 70, 0, 85, 1, 4);
            x.tell(1, 0, w[0], w[0] == 11 ? 70 : 1, w[1], w[2]);
            x.step(1);
            Check.text("by " + w[0], Check.waits(x, 1, 0), "v1");
            x.step(2);
            Check.text("done", Check.waits(x, 1, 0), "h0");
        }
        int[][] others = {{53, 5, 1}, {54, 0, 5}, {65, 4, 81}, {50, 4, 9}, {50, 4, 3}, {61, 4, 7}, {57, 4, 9}, {60, 4, 5}};
        for (int[] w : others) {
            farFile();
            set(0, 7, 0);
            row("85", 70, 0, 85, 1, 4);
            x.tell(1, 0, w[0], 1, w[1], w[2]);
            x.step(1);
            Check.text("not by " + w[0] + " " + w[2], Check.waits(x, 1, 0), "h0");
        }
        farFile();
        row("54", 0, 1, 54, 0, 80);
        set(0, 7, 0);
        row("85", 70, 0, 85, 1, 4);
        row("-27 ahead of leases", -27, 1, 53, 0, 1);
        Check.is("the lease stays", x.leases(1, 1), 1);
    }

    /** "Behind a start, all writing of cells of files waits so till the latest end of a lease that was given before". */
    private static void graces() {
        for (int ticks = 38; ticks <= 41; ticks++) {
            farFile();
            set(0, 7, 0);
            x.tell(0, 0, 85, 1, 1, 4);
            x.step(2);
            int end = x.event(x.events() - 1, 't') + 40;
            x.step(8);
            x.crash(1);
            x.step(end - 40 + ticks - x.time());
            x.boot(1);
            x.spawn(1, 0, -1);
            x.tell(1, 0, 50, 1, 4, 10);
            x.step(1);
            // The row is done in the tick behind the start: it waits as long as T is less than the end.
            boolean waits = x.time() < end;
            Check.text("behind " + ticks, Check.waits(x, 1, 0), waits ? "v-1" : "h0");
        }
        // Files without leases wait, too; and it is the end that counts.
        farFile();
        set(0, 7, 0);
        x.tell(0, 0, 85, 1, 1, 4);
        x.step(2);
        int end = x.event(x.events() - 1, 't') + 40;
        x.crash(1);
        x.boot(1);
        x.spawn(1, 0, -1);
        row("a file is made", 0, 1, 50, 9, 7);
        x.tell(1, 0, 53, 1, 0, 5);
        x.step(end - 1 - x.time());
        Check.text("it waits", Check.waits(x, 1, 0), "v-1");
        Check.is("nobody has a lease", x.leases(1, 1), 0);
        x.step(1);
        Check.is("no more", Check.waits(x, 1, 0).startsWith("v"), false);
        x.step(60);
        Check.is("content", x.content(1, x.find(1, 9), 0), 5);
        // Without a lease there is no grace.
        start();
        x.crash(1);
        x.boot(1);
        x.spawn(1, 0, -1);
        row("50", 0, 1, 50, 9, 7);
        int time = x.time();
        row("53", 1, 1, 53, 0, 5);
        Check.is("at once", x.time(), time + 1);
    }

    /** "all its blocks must be held, the first that is not is asked for"; "answered so again"; the row of requests. */
    private static void server() {
        farFile();
        row("54", 0, 1, 54, 0, 8);
        row("53", 1, 1, 53, 0, 72);
        row("64", 0, 1, 64, 0, 0);
        x.step(60);
        x.crash(1);
        x.boot(1);
        set(0, 7, 8);
        x.tell(0, 0, 85, 1, 1, 4);
        x.step(2);
        Check.is("the first that is not held", x.disc(1, 'b'), 31);
        Check.is("just that one", x.disc(1, 'q'), 0);
        x.step(40);
        Check.is("85", x.register(0, 0, 1), 72);
        Check.is("all are held", x.held(1, 31) && x.held(1, 32), true);
        // The answer is lost: the request is sent again, and answered so again, without a new lease.
        x.step(60);
        int from = x.events();
        x.tell(0, 0, 85, 1, 1, 4);
        x.step(1);
        x.cut(0, 1, true);
        x.step(10);
        Check.text("the answer is lost", Check.events(x, from), "v1 l0");
        x.cut(0, 1, false);
        x.step(12);
        Check.is("85", x.register(0, 0, 1), 72);
        Check.text("one lease", Check.events(x, from), "v1 l0");
        x.step(x.event(from, 't') + 39 - x.time());
        Check.is("it ends as it was given", x.copies(0), 1);
        x.step(1);
        Check.is("it ends as it was given", x.copies(0), 0);
    }

    /** "an end here was made by that one, in whatever state: an 'A' is sent again"; "nothing is due, and nothing counts". */
    private static void answersThatAreLost() {
        start();
        row("80", 0, 1, 80, 3, 0);
        x.tell(0, 0, 81, 1, 1, 3);
        x.step(1);
        x.cut(0, 1, true);
        x.step(1);
        Check.text("made there", ends(1), "e-----");
        Check.text("it asks still", ends(0), "o-----");
        // Four times more the answer is lost; the fifth time it comes, and no time counts behind that.
        x.step(12 * 4 + 10);
        x.cut(0, 1, false);
        x.step(4);
        Check.text("it stands", ends(0), "e-----");
        Check.text("no other one is made", ends(1), "e-----");
        Check.is("R(a)", x.register(0, 0, 1), 0);
        x.step(30);
        Check.text("nothing is due", ends(0), "e-----");
        x.cut(0, 1, true);
        row("53", 1, 0, 53, 0, 5);
        x.step(71);
        Check.text("nothing counted", ends(0), "e-----");
        x.step(1);
        Check.text("the 6th time", ends(0), "b-----");
        // To one that is there no more: an 'X' is sent, and the other side is broken.
        start();
        row("80", 0, 1, 80, 3, 0);
        x.spawn(0, 0, -1);
        x.link(0, 1, 4, 0, 0);
        x.tell(0, 0, 81, 1, 1, 3);
        x.step(2);
        x.does(0, 1, 27, 1, 1, 3);
        Check.text("a call that is given up ends", ends(0), "------");
        x.step(2);
        Check.text("made there", ends(1), "e-----");
        int from = x.events();
        x.step(8);
        Check.text("broken there", ends(1), "b-----");
        Check.text("an event", Check.events(x, from), "b0");
        row("it waits at the port still", 0, 1, 82, 3, 0);
        row("52", 0, 1, 52, 0, 2);
        Check.is("why", x.register(1, 0, 2), -104);
    }

    /** "they are numbered from 0 on since it was made": an end at a place where one was before has nothing of that. */
    private static void endsUsedAgain() {
        connect();
        for (int i = 0; i < 5; i++) {
            row("53", 1, 0, 53, 0, i);
            row("53", 1, 1, 53, 0, i);
        }
        row("52", 0, 0, 52, 0, 2);
        x.step(9);
        row("51", 0, 0, 51, 0, 0);
        row("51", 0, 1, 51, 0, 0);
        x.step(30);
        Check.text("both are gone", ends(0) + ends(1), "------------");
        row("81", 0, 0, 81, 1, 3);
        row("82", 0, 1, 82, 3, 0);
        for (int m = 0; m < 2; m++) {
            for (char what : new char[] {'o', 'r', 'b', 'x'}) {
                Check.is("nothing " + what, x.end(m, 0, what), 0);
            }
            Check.is("an id of its own", x.end(m, 0, 'i'), 2);
        }
        row("53", 1, 0, 53, 0, 77);
        row("52", 77, 1, 52, 0, 2);
        x.tell(1, 0, 52, 1, 0, 2);
        x.step(2);
        Check.text("it is not closed", Check.waits(x, 1, 0), "n0");
        x.tell(0, 0, 53, 1, 0, 78);
        x.step(3);
        Check.is("who waits becomes ready", x.register(1, 0, 1), 78);
        // A connection that stood, broke, and one that did not answer at its place.
        x.cut(0, 1, true);
        row("53", 1, 0, 53, 0, 77);
        x.step(80);
        row("51", 0, 0, 51, 0, 0);
        x.tell(0, 0, 81, 1, 1, 3);
        x.step(72);
        Check.text("it asks", ends(0), "o-----");
        x.step(1);
        Check.is("it did not answer", x.register(0, 0, 1), -110);
        // And one that was refused: the next one that does not answer is not.
        x.cut(0, 1, false);
        row("81", -111, 0, 81, 1, 8);
        x.cut(0, 1, true);
        x.tell(0, 0, 81, 1, 1, 3);
        x.step(73);
        Check.is("it did not answer", x.register(0, 0, 1), -110);
    }

    /** An end that is broken, or at a place where one was before, does nothing by itself. */
    private static void quietEnds() {
        // Broken: no packet, no event behind that.
        connect();
        x.cut(0, 1, true);
        row("53", 1, 0, 53, 0, 77);
        x.step(80);
        Check.text("broken", ends(0), "b-----");
        int from = x.events();
        x.cut(0, 1, false);
        x.step(120);
        Check.text("nothing happens", Check.events(x, from), "");
        Check.text("both stay", ends(0) + ends(1), "b-----e-----");
        // At the place of one that closed with cells that were not acknowledged.
        connect();
        row("80", 0, 0, 80, 5, 0);
        x.cut(0, 1, true);
        for (int i = 0; i < 3; i++) {
            row("53", 1, 0, 53, 0, i);
        }
        row("51", 0, 0, 51, 0, 0);
        x.step(80);
        Check.text("gone", ends(0), "------");
        row("81 from machine 2", 0, 2, 81, 0, 5);
        Check.text("at its place", ends(0), "e-----");
        Check.is("nothing is not acknowledged", x.end(0, 0, 'o'), 0);
        row("82", 0, 0, 82, 5, 0);
        x.step(120);
        Check.text("it stands", ends(0), "e-----");
        row("53", 1, 0, 53, 0, 66);
        row("52", 66, 2, 52, 0, 2);
        // At the place of one that waited at a port: one that asks does not wait there.
        start();
        x.spawn(1, 0, -1);
        x.spawn(1, 0, -1);
        row("80", 0, 1, 80, 3, 0);
        row("81", 0, 0, 81, 1, 3);
        x.does(1, 0, 22, 0, 0, 0);
        Check.text("gone", ends(1), "------");
        Check.is("80", x.does(1, 1, 80, 1, 3, 0), 0);
        x.link(1, 2, 9, 0, 0);
        x.tell(1, 2, 81, 1, 2, 3);
        x.step(2);
        Check.text("it asks", ends(1), "o-----");
        x.tell(1, 1, 82, 1, 3, 0);
        x.step(1);
        Check.text("nobody waits at the port", Check.waits(x, 1, 1), "n-4");
    }

    /** "When a machine falls down, all is gone": requests in the row of its server, too. */
    private static void rowsThatAreGone() {
        farFile();
        x.crash(1);
        x.boot(1);
        set(0, 7, 0);
        x.tell(0, 0, 85, 1, 1, 4);
        x.step(2);
        Check.is("it waits for the disc", x.disc(1, 'q') + x.disc(1, 'l') > 0, true);
        x.cut(0, 1, true);
        x.crash(1);
        x.boot(1);
        int from = x.events();
        x.step(15);
        Check.text("nothing is served", Check.events(x, from), "");
        Check.is("nor read", x.disc(1, 'a'), 0);
        x.cut(0, 1, false);
        x.step(20);
        Check.is("as it is sent again", x.register(0, 0, 1), 70);
    }

    /** "A port is closed when its process ends: connections that wait there are gone, and the other sides get an 'X'." */
    private static void portsThatClose() {
        start();
        x.spawn(1, 0, -1);
        for (int port : new int[] {0, 9}) {
            Check.is("80", x.does(1, 1, 80, 1, port, 0), 0);
        }
        row("81", 0, 0, 81, 1, 0);
        row("81", 1, 0, 81, 1, 9);
        row("81", 2, 0, 81, 1, 9);
        Check.text("they wait", ends(1), "eee---");
        x.does(1, 1, 22, 0, 0, 0);
        Check.text("gone", ends(1), "------");
        Check.is("three packets", x.packets(0), 3);
        x.step(1);
        Check.text("the other sides", ends(0), "bbb---");
        row("nobody listens", -111, 0, 81, 1, 0);
        row("80 of 0", 0, 1, 80, 0, 0);
        row("80 of 9", 0, 1, 80, 9, 0);
        // 67 over a connection closes it.
        connect();
        row("66", 12, 0, 66, 0, 0);
        row("67", 0, 0, 67, 1, 0);
        x.step(9);
        Check.text("closed", ends(0), "------");
        row("the other side is told", 0, 1, 52, 0, 2);
        Check.is("the end", x.register(1, 0, 2), 0);
        // By 20 both have it: it is closed when nobody has it.
        connect();
        row("20", 2, 0, 20, 0, 0);
        row("51", 0, 0, 51, 0, 0);
        x.step(9);
        Check.text("open", ends(0), "e-----");
        x.does(0, 1, 22, 0, 0, 0);
        x.step(9);
        Check.text("closed", ends(0), "------");
    }

    /** "one that closes drops what comes, as if it was read": who waits for it becomes ready. */
    private static void waitingAtAClose() {
        // Two threads of a process on machine 1: 1 reads, 0 closes the file meanwhile; the link needs 6 ticks.
        x = new KernelWorks();
        x.link(0, 1, 6, 0, 0);
        x.spawn(0, 0, -1);
        Check.program(x, 0, 80, 0, 3, 0, 82, 7, 3, 0, 24, 1, 6, 0, 33, 20, 0, 0, 51, 2, 1007, 0, 33, 99, 0, 0,
            52, 3, 1007, 4, 33, 99, 0, 0);
        x.spawn(1, 0, 0);
        x.step(2);
        x.tell(0, 0, 81, 1, 1, 3);
        x.step(25);
        Check.is("it stands", x.register(0, 0, 1), 0);
        Check.text("one waits for a cell", Check.waits(x, 1, 1), "n0");
        // A cell is sent at 28 and comes at 34; the file is closed at 31; that is acknowledged at 43.
        x.tell(0, 0, 53, 1, 0, 9);
        x.step(3);
        Check.is("open at 30", x.end(1, 0, 's'), 'e');
        x.step(1);
        Check.is("closed at 31", x.end(1, 0, 's'), 'c');
        x.step(2);
        Check.text("it waits at 33", Check.waits(x, 1, 1), "n0");
        x.step(1);
        Check.is("the cell is taken", x.end(1, 0, 'x'), 1);
        Check.is("and dropped", x.end(1, 0, 'r'), 0);
        Check.is("there is no such file any more", x.register(1, 1, 4), -9);
        x.step(8);
        Check.text("it closes at 42", ends(1), "c-----");
        x.step(1);
        Check.text("and is gone at 43", ends(1), "------");
    }

    /** When an end is due for the 6th time: who waits becomes ready as it is broken, not as one that closes is gone. */
    private static void waitingAtTheSixthTime() {
        for (int closes = 0; closes < 2; closes++) {
            x = new KernelWorks();
            Check.program(x, 0, 81, 0, 1, 3, 24, 1, 4, 0, 52, 0, 0, 5, 33, 999, 0, 0, 33, 20, 0, 0,
                    closes == 0 ? 53 : 51, 2, 0, 0, 33, 999, 0, 0);
            x.spawn(1, 0, -1);
            x.does(1, 0, 80, 0, 3, 0);
            x.spawn(0, 0, 0);
            x.step(20);
            Check.text("one waits for a cell", Check.waits(x, 0, 0), "n0");
            x.cut(0, 1, true);
            int sent = x.time();
            while (x.end(0, 0, 'o') == 0) {
                x.step(1);
            }
            x.step(71);
            Check.text("ahead of the 6th time", ends(0).substring(0, 1), closes == 0 ? "e" : "c");
            Check.text("it waits", Check.waits(x, 0, 0), "n0");
            x.step(1);
            Check.text("the 6th time", ends(0).substring(0, 1), closes == 0 ? "b" : "-");
            Check.text("it is ready, or waits on", Check.waits(x, 0, 0), closes == 0 ? "ready" : "n0");
            Check.is("R(c)", x.register(0, 0, 5), closes == 0 ? -104 : 0);
        }
        // By an X it becomes ready in both cases.
        x = new KernelWorks();
        Check.program(x, 0, 81, 0, 1, 3, 24, 1, 4, 0, 52, 0, 0, 5, 33, 999, 0, 0, 33, 20, 0, 0, 51, 2, 0, 0,
                33, 999, 0, 0);
        x.spawn(1, 0, -1);
        x.does(1, 0, 80, 0, 3, 0);
        x.spawn(0, 0, 0);
        x.step(20);
        x.crash(1);
        x.boot(1);
        while (x.end(0, 0, 's') == 'e') {
            x.step(1);
        }
        x.step(5);
        Check.text("it waits", Check.waits(x, 0, 0), "n0");
        x.step(1);
        Check.text("gone", ends(0), "------");
        Check.text("it became ready", Check.waits(x, 0, 0), "ready");
        Check.is("R(c)", x.register(0, 0, 5), -9);
    }

    /** "For both a request with a number of its own": names do not hinder far files; 83 is sent again, too. */
    private static void requestsAtOnce() {
        farFile();
        set(0, 7, 1);
        x.spawn(0, 0, -1);
        x.spawn(2, 0, -1);
        x.cut(0, 2, true);
        x.tell(2, 0, 84, 1, 5, 0);
        Check.row(x, 2, 1, 1, 7, 1, 0);
        Check.is("85 while a name is asked", x.does(2, 1, 85, 1, 1, 4), 71);
        Check.text("that waits still", Check.waits(x, 2, 0), "f0");
        // 83 without an answer.
        x.tell(2, 1, 83, 1, 6, 9);
        x.step(64);
        Check.text("it waits", Check.waits(x, 2, 1), "f1");
        x.step(1);
        Check.is("R(a)", x.register(2, 1, 1), -110);
        Check.fails("nobody gave it", Check.NONE, () -> x.named(6));
        // The port 0 of machine 0 is the number 0: it is told, answered, and kept.
        row("83", 0, 0, 83, 7, 0);
        Check.is("named", x.named(7), 0);
        row("84", 0, 1, 84, 7, 0);
        int time = x.time();
        row("84 is kept", 0, 1, 84, 7, 0);
        Check.is("without a packet", x.time(), time + 1);
        x.crash(1);
        Check.is("machine 0 is up", x.named(7), 0);
        x.crash(0);
        Check.fails("machine 0 is down", Check.NONE, () -> x.named(7));
        x.boot(0);
        Check.fails("it was not kept there", Check.NONE, () -> x.named(7));
        x.boot(1);
        x.spawn(1, 0, -1);
        row("nor here", -2, 1, 84, 7, 0);
        // "the numbers given to ends and requests" go on.
        row("80", 0, 1, 80, 3, 0);
        x.spawn(0, 0, -1);
        row("81", 0, 0, 81, 1, 3);
        int id = x.end(0, 0, 'i');
        x.crash(0);
        x.boot(0);
        x.spawn(0, 0, -1);
        row("81", 0, 0, 81, 1, 3);
        Check.is("the next id", x.end(0, 0, 'i'), id + 1);
    }

    /** "with 1 a lease of the asking machine is gone, and that drops its copies of this file when the answer comes". */
    private static void writersWithCopies() {
        farFile();
        set(0, 7, 0);
        set(0, 6, 7);
        row("85", 70, 0, 85, 1, 4);
        Check.is("a lease and a copy", x.leases(1, 1) * 10 + x.copies(0), 11);
        set(0, 6, 99);
        int from = x.events();
        x.tell(0, 0, 86, 1, 1, 4);
        x.step(2);
        Check.is("written", x.content(1, 1, 0), 99);
        Check.is("the lease is gone, the copy not yet", x.leases(1, 1) * 10 + x.copies(0), 1);
        x.step(1);
        Check.is("as the answer comes", x.copies(0), 0);
        Check.text("nobody is told", Check.events(x, from), "");
        row("85", 99, 0, 85, 1, 4);
        // What is refused leaves both as they are, and does not count.
        long written = x.account(0, 0, 'w');
        row("86 of a directory", -21, 0, 86, 1, 0);
        Check.is("a lease and a copy", x.leases(1, 1) * 10 + x.copies(0), 11);
        Check.is("the account", x.account(0, 0, 'w'), written);
        // A copy of the same inode on another machine is another one.
        row("50", 0, 2, 50, 4, 7);
        row("53", 1, 2, 53, 0, 55);
        Check.is("the same inode", x.find(2, 4), x.find(1, 4));
        row("85", 55, 0, 85, 2, 4);
        Check.is("two copies", x.copies(0), 2);
        row("54", 0, 1, 54, 0, 0);
        row("53", 1, 1, 53, 0, 50);
        x.step(3);
        Check.is("one is dropped", x.copies(0), 1);
        int time = x.time();
        row("the other one is there", 55, 0, 85, 2, 4);
        Check.is("at once", x.time(), time + 1);
    }

    /** "each of them who was not told so yet is told": two writers tell it once; a lease that is given anew is told anew. */
    private static void toldOnce() {
        farFile();
        x.spawn(1, 0, -1);
        Check.is("50", x.does(1, 1, 50, 1, 4, 7), 0);
        set(0, 7, 0);
        row("85", 70, 0, 85, 1, 4);
        x.link(0, 1, 9, 0, 0);
        int from = x.events();
        x.tell(1, 0, 53, 1, 0, 5);
        x.tell(1, 1, 53, 1, 0, 6);
        x.step(2);
        Check.text("both wait", Check.waits(x, 1, 0) + Check.waits(x, 1, 1), "v1v1");
        Check.text("told once", Check.events(x, from), "k1");
        x.step(20);
        Check.text("both wrote", Check.waits(x, 1, 0) + Check.waits(x, 1, 1), "h0h0");
        // While it is told so it reads anew: that is a new lease, which is told so, too.
        x.link(0, 1, 1, 0, 0);
        x.step(40);
        row("85", 6, 0, 85, 1, 4);
        x.cut(0, 1, true);
        from = x.events();
        x.tell(1, 0, 53, 1, 0, 7);
        x.step(1);
        Check.text("told, and lost", Check.events(x, from), "k1 l0");
        x.cut(0, 1, false);
        x.spawn(0, 1, -1);
        Check.is("85 by user 1", x.does(0, 1, 85, 1, 1, 4), 6);
        from = x.events();
        x.tell(1, 1, 53, 1, 0, 8);
        x.step(1);
        Check.text("the new one is told", Check.events(x, from), "k1");
    }

    /** "at its end and behind it both are 0": of an answer that comes, too. Several answers are under way at once. */
    private static void answersUnderWay() {
        int[][] due = {{0, 70, 1}, {1, 71, 1}, {2, 0, 0}, {80, 0, 0}, {Integer.MAX_VALUE, 0, 0}};
        for (int[] d : due) {
            farFile();
            set(0, 6, 5);
            set(0, 7, d[0]);
            row("85 of the cell " + d[0], d[1], 0, 85, 1, 4);
            Check.is("told", x.register(0, 0, 6), d[2]);
            Check.is("a copy all the same", x.copies(0), 1);
        }
        // Machines 0 and 2 read two files of machine 1, and both answers need 9 ticks, twice.
        farFile();
        row("50", 1, 1, 50, 5, 7);
        row("53", 1, 1, 53, 1, 90);
        row("64", 0, 1, 64, 0, 0);
        x.step(60);
        x.link(0, 1, 9, 0, 9);
        x.link(1, 2, 9, 0, 9);
        set(0, 7, 0);
        set(2, 7, 0);
        int from = x.events();
        x.tell(0, 0, 85, 1, 1, 4);
        x.tell(2, 0, 85, 1, 1, 5);
        int time = x.time();
        x.step(10);
        Check.text("the first one is served", Check.events(x, from), "v1");
        x.step(1);
        Check.text("the other one in the next tick", Check.events(x, from), "v1 v2");
        x.step(9);
        Check.is("of the one", x.register(0, 0, 1), 70);
        Check.is("of the other", x.register(2, 0, 1), 90);
        Check.is("there and back", x.time(), time + 20);
        Check.text("nothing else is served", Check.events(x, from), "v1 v2");
        // All ten blocks are read for it, the last one, too.
        x = new KernelWorks();
        for (int m = 0; m < 2; m++) {
            x.spawn(m, 0, -1);
        }
        row("50", 0, 1, 50, 4, 7);
        row("54", 0, 1, 54, 0, 79);
        row("53", 1, 1, 53, 0, 66);
        row("64", 0, 1, 64, 0, 0);
        x.step(60);
        x.crash(1);
        x.boot(1);
        set(0, 7, 79);
        row("85 of the last cell", 66, 0, 85, 1, 4);
        Check.is("its block is held", x.held(1, x.block(1, x.inode(1, 1, 7), 7)), true);
        Check.is("the account", x.account(1, 0, 'r'), 0);
    }

    /** "leaves it there till the next tick"; "or that is in the row, does nothing": a request that is sent again. */
    private static void requestsInTheRow() {
        farFile();
        x.spawn(2, 0, -1);
        set(2, 7, 0);
        set(0, 7, 1);
        set(0, 6, 500);
        row("85 by machine 2", 70, 2, 85, 1, 4);
        x.cut(1, 2, true);
        long writes = x.log(1, 'n');
        x.tell(0, 0, 86, 1, 1, 4);
        x.step(25);
        Check.text("it waits for the lease of machine 2", Check.waits(x, 0, 0), "x0");
        // Another request of machine 0 has to wait behind it, and one of machine 0 that was sent again does nothing.
        x.step(20);
        Check.is("R(a)", x.register(0, 0, 1), 1);
        Check.is("written", x.content(1, 1, 1), 500);
        Check.is("one number more", x.log(1, 'n') - writes <= 1, true);
        set(0, 6, 501);
        row("86", 1, 0, 86, 1, 4);
        Check.is("written", x.content(1, 1, 1), 501);
        x.step(30);
        Check.is("not written again by the old one", x.content(1, 1, 1), 501);
    }

    /** "When a thread gives up a far request": it is over, who waits asks; an answer behind that does nothing. */
    private static void requestsGivenUp() {
        for (int op : new int[] {85, 86}) {
            farFile();
            x.link(0, 1, 5, 0, 0);
            Check.program(x, 0, 28, 0, 11, 3, op, 1, 1, 4, 33, 99, 0, 0, 30, 0, 0, 0);
            Check.program(x, 1, 33, 3, 0, 0, 85, 1, 1, 9, 33, 99, 0, 0);
            x.spawn(0, 0, 0);
            x.spawn(0, 0, 1);
            x.step(8);
            Check.text("the first asks", Check.waits(x, 0, 1), "x1");
            Check.text("the other one waits", Check.waits(x, 0, 2), "x2");
            Check.is("one packet", x.packets(1), 0);
            x.does(0, 0, 27, 1, 2, 11);
            Check.is("given up", x.register(0, 1, 1), -4);
            x.step(30);
            Check.is("the other one got its answer", x.register(0, 2, 6), -2);
            Check.is("no copy", x.copies(0), 0);
        }
    }

    public static void main(String[] args) {
        delays();
        draws();
        ports();
        noRoom();
        noRoomForEnds();
        numbersGoneMeanwhile();
        threeAtAPort();
        rowsOfCells();
        closing();
        dues();
        names();
        keptNames();
        requestsForNames();
        farReads();
        farWrites();
        leases();
        copies();
        requestsForFiles();
        givingBack();
        waysOfWriting();
        graces();
        server();
        answersThatAreLost();
        endsUsedAgain();
        quietEnds();
        rowsThatAreGone();
        portsThatClose();
        waitingAtAClose();
        waitingAtTheSixthTime();
        requestsAtOnce();
        writersWithCopies();
        toldOnce();
        answersUnderWay();
        requestsInTheRow();
        requestsGivenUp();
        Check.end("BoundsNetworkTest");
    }
}
