/** Parts 10 to 12 of the terms, and the promises 27 to 31, where they name a bound: accounts, events, changes, a replay. */
public final class BoundsTogetherTest {
    private static KernelWorks x;

    private static void row(String what, int due, int op, int b, int c) {
        Check.is(what, Check.row(x, op, b, c), due);
    }

    /** "counts that only become greater, also when the machine falls down: 't' ticks in which its threads ran; ..." */
    private static void accounts() {
        x = Check.driven(1, 2);
        for (char what : new char[] {'t', 'f', 'r', 'w', 'n'}) {
            for (int u = 0; u < 5; u++) {
                Check.is("0 at first", x.account(0, u, what), 0);
            }
        }
        x.does(0, 0, 11, 5, 0, 0);
        x.does(0, 0, 11, 5, 8, 0);
        Check.is("t", x.account(0, 1, 't'), 2);
        Check.is("of another user", x.account(0, 2, 't'), 0);
        x.step(5);
        Check.is("f at 7", x.account(0, 1, 'f'), 0);
        x.step(1);
        Check.is("f at 8", x.account(0, 1, 'f'), 2);
        x.step(7);
        Check.is("f at 15", x.account(0, 1, 'f'), 2);
        x.step(1);
        Check.is("f at 16", x.account(0, 1, 'f'), 4);
        x.crash(0);
        Check.is("t stays", x.account(0, 1, 't'), 2);
        Check.is("f stays", x.account(0, 1, 'f'), 4);
        x.boot(0);
        Check.is("t stays", x.account(0, 1, 't'), 2);
        x.step(8);
        Check.is("f of pages that are gone", x.account(0, 1, 'f'), 4);
        Check.is("on that machine alone", x.account(1, 1, 't'), 0);
        // Pages that come or go are in no frame.
        x = Check.driven(1, 2);
        for (int page = 0; page < 8; page++) {
            x.does(0, 0, 11, 5, 8 * page, 0);
        }
        x.step(6);
        x.tell(0, 1, 11, 5, 0, 0);
        x.step(1);
        Check.is("one goes at 15", x.time() * 10 + x.process(0, 1, 'f'), 157);
        long before = x.account(0, 1, 'f');
        x.step(1);
        Check.is("f of seven", x.account(0, 1, 'f') - before, 7);
    }

    /** "'w' cells that it wrote to files, by 53, mapped pages and 86"; "'n' cells that it wrote into connections". */
    private static void writtenCells() {
        x = Check.driven(0);
        row("50", 0, 50, 1, 7);
        row("53", 1, 53, 0, 5);
        Check.is("one", x.account(0, 0, 'w'), 1);
        row("54", 0, 54, 0, 80);
        row("53 that is refused", -27, 53, 0, 5);
        Check.is("no more", x.account(0, 0, 'w'), 1);
        row("65 writes no cell", 0, 65, 1, 0);
        row("50 with 8", 1, 50, 1, 10);
        Check.is("no more", x.account(0, 0, 'w'), 1);
        row("68", 0, 68, 0, 0);
        x.does(0, 0, 11, 5, 0, 0);
        Check.is("a mapped page", x.account(0, 0, 'w'), 2);
        x.does(0, 0, 11, 5, 0, 0);
        Check.is("also if nothing changes", x.account(0, 0, 'w'), 3);
        row("66", 23, 66, 0, 0);
        row("53 to a pipe", 1, 53, 3, 5);
        Check.is("no more", x.account(0, 0, 'w'), 3);
        Check.is("none to connections", x.account(0, 0, 'n'), 0);
        // One that waits counts once, as it is done.
        x = Check.driven(0);
        row("50", 0, 50, 1, 7);
        row("64", 0, 64, 0, 0);
        x.tell(0, 0, 53, 1, 0, 5);
        x.step(2);
        Check.text("it waits", Check.waits(x, 0, 0), "g0");
        Check.is("not yet", x.account(0, 0, 'w'), 0);
        x.step(60);
        Check.is("once", x.account(0, 0, 'w'), 1);
    }

    /** "Events are told with T, the machine, a sign and a number, the last 100". */
    private static void events() {
        x = new KernelWorks();
        Check.is("none", x.events(), 0);
        Check.fails("none", Check.NONE, () -> x.event(0, 't'));
        Check.program(x, 0, 22, 0, 0, 0);
        for (int i = 1; i <= 52; i++) {
            x.spawn(2, 0, 0);
            x.step(1);
            Check.is("events", x.events(), Math.min(100, 2 * i));
            int last = x.events();
            Check.fails("no more", Check.NONE, () -> x.event(last, 'n'));
            Check.is("the last one", x.event(last - 1, 's'), 'e');
            Check.is("its clock", x.event(last - 1, 't'), i);
            Check.is("its machine", x.event(last - 1, 'm'), 2);
            Check.is("its number", x.event(last - 1, 'n'), 1000);
        }
        Check.is("the oldest of 104", x.event(0, 't'), 2);
        Check.is("the oldest of 104", x.event(0, 's'), 'p');
        x.spawn(2, 0, 0);
        Check.is("100 still", x.events(), 100);
        Check.is("the oldest of 105", x.event(0, 's'), 'e');
        Check.fails("below 0", Check.NONE, () -> x.event(-1, 't'));
    }

    private static KernelWorks changed(int ticks, int... rows) {
        // Program 1 waits at a queue; 2 sleeps for so many ticks, and does what is told then.
        KernelWorks y = new KernelWorks();
        Check.program(y, 1, 43, 1, 0, 0);
        y.rows(2, 0, 33, ticks, 0, 0, -1, 0, 0, 0);
        for (int i = 0; i < rows.length; i += 4) {
            y.rows(2, 1 + i / 4, rows[i], rows[i + 1], rows[i + 2], rows[i + 3], -1, 0, 0, 0);
        }
        y.spawn(0, 0, 1);
        y.step(1);
        Check.is("upgrade", y.upgrade(0, 1, 2), true);
        return y;
    }

    /** "within the next 20 ticks (T not above that of the change plus 20), a signal 4 or 8 that one of its rows sent". */
    private static void takenBack() {
        int[][] ways = {{99, 0, 0, 0}, {5, 1, 1, 0}, {27, 1, 1, 4}, {27, 1, 1, 8}, {8, 77, 0, 0}, {1, 8, 0, 0},
            {11, 1, 64, 0}, {10, 1, -1, 0}};
        for (int[] w : ways) {
            for (int ticks = 18; ticks <= 20; ticks++) {
                x = changed(ticks, w);
                // The change at 1, the sleep from 2 on: the row is done at 2 and the ticks, a jump one later.
                int at = 2 + ticks + (w[0] == 8 ? 1 : 0);
                x.step(30);
                boolean isBack = at <= 21;
                String what = w[0] + " at " + at;
                String text = Check.events(x, 2);
                Check.is(what, text.contains("t1"), isBack);
                Check.is(what, text.contains("e1"), !isBack);
                if (isBack) {
                    Check.is("the program before", x.process(0, 1, 'g'), 1);
                    Check.is("its version is 1 more", x.process(0, 1, 'v'), 2);
                    Check.is("register 7", x.register(0, 0, 7), -1);
                    Check.text("it waits again", Check.waits(x, 0, 0), "q0");
                }
            }
        }
        // Other signals of its own end it.
        for (int s : new int[] {1, 2, 3, 6, 7, 11}) {
            x = changed(3, 27, 1, 1, s);
            x.step(9);
            Check.is("signal " + s, x.event(x.events() - 1, 'n'), 1128 + s);
        }
        // "That is no change that could be taken back": the second fault ends it.
        x = changed(3, 99, 0, 0, 0);
        x.step(9);
        Check.text("taken back", Check.events(x, 1), "u1 s104 t1");
        x.rows(1, 0, 99, 0, 0, 0, -1, 0, 0, 0);
        x.spawn(0, 0, -1);
        x.does(0, 1, 42, 1, 0, 1);
        x.step(2);
        Check.is("it ends", x.event(x.events() - 1, 'n'), 1132);
    }

    /** "It waits for that till all its threads that did not end wait for calls ('a'), at a queue to receive (43), ..". */
    private static void waitsForAChange() {
        int[][] rows = {{43, 1, 0, 0}, {45, 1, 0, 2}, {82, 1, 3, 0}, {42, 1, 1, 5}, {33, 99, 0, 0}, {44, 1, 2, 0},
            {84, 1, 5, 0}, {52, 1, 0, 2}, {40, 1, 1, 0}, {0, 0, 0, 0}, {23, 1, 0, 0}};
        for (int i = 0; i < rows.length; i++) {
            x = new KernelWorks();
            x.link(0, 1, 9, 0, 0);
            x.cut(0, 1, true);
            Check.program(x, 0, 80, 0, 3, 0, 66, 0, 0, 0);
            x.rows(0, 2, rows[i][0], rows[i][1], rows[i][2], rows[i][3], 8, 2, 0, 0);
            x.spawn(0, 0, 0);
            x.spawn(0, 0, -1);
            x.does(0, 1, 40, 1, 1, 0);
            x.step(9);
            boolean may = i < 3;
            Check.is("upgrade in " + rows[i][0], x.upgrade(0, 1, 7), may);
            Check.is("version", x.process(0, 1, 'v'), may ? 1 : 0);
        }
        // All threads: one that sleeps hinders it, one that ended does not.
        for (int end = 0; end < 2; end++) {
            x = new KernelWorks();
            Check.program(x, 7, 43, 1, 0, 0);
            Check.program(x, 0, 24, 1, 2, 0, 43, 1, 0, 0, end == 1 ? 26 : 33, end == 1 ? 9 : 8, 0, 0, 43, 1, 0, 0);
            x.spawn(0, 0, 0);
            x.step(5);
            Check.is("upgrade", x.upgrade(0, 1, 7), end == 1);
            x.step(9);
            Check.is("behind a row of one of them", x.process(0, 1, 'g'), 7);
        }
        // As several threads are at the row 0, ready by their numbers.
        x = new KernelWorks();
        Check.program(x, 0, 24, 1, 1, 0, 43, 1, 0, 0);
        Check.program(x, 7, 43, 1, 0, 0);
        x.spawn(0, 0, 0);
        x.step(3);
        Check.is("upgrade", x.upgrade(0, 1, 7), true);
        for (int t = 0; t < 2; t++) {
            Check.text("ready", Check.waits(x, 0, t), "ready");
            Check.is("at the row 0", x.thread(0, t, 'r'), 0);
            Check.is("the version before", x.register(0, t, 7), 0);
        }
        x.step(1);
        Check.is("by their numbers", x.ran(0), 0);
        x.step(1);
        Check.is("by their numbers", x.ran(0), 1);
        Check.is("upgrade to the same", x.upgrade(0, 1, 7), true);
        Check.is("version", x.process(0, 1, 'v'), 2);
        Check.is("the version before", x.register(0, 1, 7), 1);
    }

    /** "Returns how many they are divided by the clock, both converted to float"; "ArithmeticException if .. 0". */
    private static void shares() {
        x = Check.driven(0);
        Check.fails("at 0", ArithmeticException.class, () -> x.busyShare(0));
        x.step(1);
        Check.is("none of 1", x.busyShare(0), 0.0);
        x.does(0, 0, 0, 0, 0, 0);
        Check.is("1 of 2", x.busyShare(0), 0.5);
        x.does(0, 0, 0, 0, 0, 0);
        Check.is("2 of 3", x.busyShare(0), (double) (2f / 3f));
        x.crash(0);
        Check.is("of one that is down", x.busyShare(0), (double) (2f / 3f));
        x = Check.driven(0);
        x.does(0, 0, 0, 0, 0, 0);
        Check.is("all", x.busyShare(0), 1.0);
        // meanAge: of frames that are not free.
        Check.fails("all are free", ArithmeticException.class, () -> x.meanAge(0));
        x.does(0, 0, 11, 1, 0, 0);
        Check.is("one", x.meanAge(0), 128.0);
        x.step(6);
        x.does(0, 0, 11, 1, 8, 0);
        x.does(0, 0, 11, 1, 16, 0);
        Check.is("three", x.meanAge(0), (192 + 128 + 128) / 3.0);
    }

    /** "IllegalStateException if more than 200 calls were told, or the clock is above 300". */
    private static void replays() {
        x = new KernelWorks();
        Check.is("of nothing", x.isReplayed(), true);
        x.step(299);
        Check.is("299", x.isReplayed(), true);
        x.step(1);
        Check.is("300", x.isReplayed(), true);
        x.step(1);
        Check.fails("301", Check.STATE, () -> x.isReplayed());
        for (int kind = 0; kind < 2; kind++) {
            x = new KernelWorks();
            for (int i = 1; i <= 201; i++) {
                if (kind == 0) {
                    x.seed(i);
                } else {
                    x.rows(i % 16, 0, 1, 1, i, 0, -1, 0, 0, 0);
                }
                if (i >= 199) {
                    if (i <= 200) {
                        Check.is(i + " calls", x.isReplayed(), true);
                    } else {
                        Check.fails(i + " calls", Check.STATE, () -> x.isReplayed());
                    }
                }
            }
        }
        // What asks, and what throws, is not told.
        x = new KernelWorks();
        for (int i = 0; i < 200; i++) {
            x.user(i % 5, 0, 1, 40, 20);
            x.isUp(0);
            Check.fails("throws", Check.ARGUMENT, () -> x.seed(x.spawn(3, 0, 0)));
        }
        Check.is("200 calls", x.isReplayed(), true);
        // Each kind of call that is told.
        x = new KernelWorks();
        Check.program(x, 0, 2, 1, 1001, 1, 43, 2, 0, 0, 8, 0, 0, 0);
        x.user(1, 3, 2, 10, 10);
        x.link(0, 1, 2, 5, 5);
        x.cut(1, 2, true);
        x.seed(77);
        x.spawn(0, 1, 0);
        x.spawn(0, 0, -1);
        x.tell(0, 1, 42, 1, 0, 5);
        x.step(9);
        Check.is("upgrade", x.upgrade(0, 1, 1), true);
        x.login(1, 2);
        Check.type(x, 1, "echo a > f; cat f\n");
        x.does(0, 1, 33, 70, 0, 0);
        x.step(40);
        x.crash(1);
        x.spoil(1, 11, 0, 9);
        x.spoil(1, 12, 3, 2);
        x.mend(1);
        x.spoil(1, 30, 0, 12345);
        x.boot(1);
        x.step(100);
        Check.is("told to new machines, they lead to the same", x.isReplayed(), true);
        Check.is("and again", x.isReplayed(), true);
        x.does(0, 1, 1, 5, 7, 0);
        Check.is("and behind that", x.isReplayed(), true);
    }

    /** "those that are not told of a machine": checksum of machines that are up and down, threads and processes. */
    private static void sums() {
        x = new KernelWorks();
        long sum = 7L * 31;
        for (int m = 0; m < 3; m++) {
            sum = sum * 31 + 1;
            for (int i = 0; i < 82 * 8; i++) {
                sum = sum * 31 + (i == 2 ? 1 : i == 3 ? 100 : i == 80 ? 2 : i == 81 ? 493 : i == 83 ? 1 : 0);
            }
            sum = sum * 31;
            sum = sum * 31;
            for (int t = 0; t < 14; t++) {
                sum = sum * 31 - 1;
            }
            for (int p = 0; p < 10; p++) {
                sum = sum * 31 - 1;
            }
        }
        Check.is("at first", x.checksum(), sum);
        long before = x.checksum();
        x.crash(2);
        x.boot(2);
        Check.is("a fall and a start change nothing of it", x.checksum(), before);
        x.step(1);
        Check.is("a tick changes it", x.checksum() == before, false);
    }

    /** "of each that is up and whose disc was never spoiled there are no faults". */
    private static void sound() {
        x = Check.driven(0);
        Check.is("isSound", x.isSound(), true);
        row("50", 0, 50, 1, 7);
        row("53", 1, 53, 0, 5);
        Check.is("isSound", x.isSound(), true);
        x.crash(0);
        x.spoil(0, 11, 0, 9);
        Check.is("one that is down", x.isSound(), true);
        x.boot(0);
        Check.is("one that was mended", x.isSound(), true);
    }

    private interface Told {
        void tell(KernelWorks y);
    }

    /** What was told is told again with each of its numbers: what they make of a machine is in the checksum. */
    private static void replayed(String what, Told told) {
        x = new KernelWorks();
        told.tell(x);
        Check.is("isReplayed: " + what, x.isReplayed(), true);
        Check.is("isReplayed: " + what, x.isReplayed(), true);
        x.step(1);
        Check.is("isReplayed: " + what, x.isReplayed(), true);
    }

    /** "All that there is follows from these alone: told to new machines, they lead to the same." */
    private static void toldNumbers() {
        for (int quota = 0; quota < 2; quota++) {
            int q = quota;
            replayed("user", y -> {
                y.user(1, 1 + q, 3 + q, q, q);
                y.spawn(0, 0, -1);
                y.does(0, 0, 61, 1, 0, 0777);
                y.spawn(0, 1, -1);
                y.spawn(0, 2, -1);
                y.does(0, 1, 50, 1, 1, 7);
                y.does(0, 1, 53, 1, 0, 5);
                y.does(0, 0, 50, 1, 2, 7);
                y.does(0, 0, 61, 1, 2, 070);
                y.does(0, 0, 62, 1, 2, 2);
                y.does(0, 1, 50, 2, 2, 7);
                Check.program(y, 0, 2, 1, 1001, 1, 8, 0, 0, 0);
                y.spawn(0, 1, 0);
                y.spawn(0, 2, 0);
                y.step(20);
            });
        }
        for (int v = 1; v < 3; v++) {
            int n = v;
            replayed("link", y -> {
                y.seed(1234567 * n);
                y.link(1, 2, 2 + 3 * n, 2 + n, 3 * n);
                y.link(0, 1, n, 0, 0);
                y.cut(0, 1, n == 2);
                // Each asks the next machine again and again, and counts how often, and when, it was refused.
                for (int m = 0; m < 3; m++) {
                    Check.program(y, m, 81, 0, (m + 1) % 3, 3, 13, 1, 0, 0, 2, 2, 1002, 1, 8, 0, 0, 0);
                    y.spawn(m, 0, m);
                }
                y.step(150);
            });
        }
        replayed("mend and spoil", y -> {
            y.crash(1);
            y.spoil(1, 11, 0, 3);
            y.spoil(1, 11, 6, 5);
            y.spoil(1, 44, 7, 99);
            y.mend(1);
            y.crash(2);
            y.spoil(2, 12, 1, 5);
            y.spoil(2, 0, 4, 5);
        });
        replayed("keys", y -> {
            y.login(2, 3);
            y.type(2, 0x6563686f20612062L, 0x2063, 0x0a, 0x6563686f20643eL, 0x650a);
            y.step(60);
        });
        replayed("spawn and tell", y -> {
            Check.program(y, 14, 1, 3, 33, 0, 24, 4, 0, 0, 33, 40, 0, 0);
            y.rows(15, 0, 34, 1, 2, 0, 34, 2, 3, 0);
            y.rows(15, 2, 33, 99, 7, 8, -1, 1, 2, 3);
            y.spawn(2, 4, 14);
            y.spawn(2, 3, 15);
            y.spawn(2, 2, -1);
            y.tell(2, 2, 2, 6, 40, 2);
            y.step(30);
            y.does(2, 2, 20, 5, 0, 0);
        });
        replayed("upgrade", y -> {
            Check.program(y, 1, 43, 1, 0, 0);
            Check.program(y, 9, 43, 1, 0, 0);
            y.spawn(1, 0, 1);
            y.spawn(1, 0, 1);
            y.step(3);
            y.upgrade(1, 2, 9);
            y.upgrade(1, 1, 0);
            y.upgrade(1, 2, 1);
            y.step(3);
        });
        // Settings that are told last: a second telling begins without them.
        replayed("settings behind", y -> {
            Check.program(y, 0, 81, 0, 1, 3, 13, 1, 0, 0, 2, 2, 1002, 1);
            y.spawn(0, 1, 0);
            y.spawn(0, 2, -1);
            y.spawn(1, 0, -1);
            y.does(0, 1, 50, 1, 1, 7);
            y.does(1, 0, 84, 1, 5, 0);
            y.step(40);
            y.rows(0, 3, 13, 5, 0, 0, 8, 0, 0, 0);
            y.rows(1, 0, 13, 5, 0, 0, 8, 0, 0, 0);
            y.user(1, 7, 9, 0, 0);
            y.user(2, 7, 9, 0, 0);
            y.link(0, 1, 9, 9, 9);
            y.link(1, 2, 9, 9, 9);
            y.cut(0, 1, true);
            y.cut(0, 2, true);
            y.seed(77);
            y.spawn(0, 1, 0);
            y.tell(1, 0, 84, 1, 5, 0);
            y.step(3);
        });
        // Everything that a machine has, so that a second telling begins with nothing of the first one.
        replayed("much", y -> {
            y.user(0, 7, 9, 1, 1);
            y.spawn(0, 0, -1);
            y.spawn(1, 0, -1);
            y.does(0, 0, 50, 1, 1, 7);
            y.does(0, 0, 53, 1, 0, 5);
            y.does(0, 0, 66, 1, 0, 0);
            y.does(0, 0, 53, 1, 2, 5);
            y.does(0, 0, 40, 1, 3, 0);
            y.does(0, 0, 42, 1, 1, 5);
            y.does(0, 0, 11, 1, 9, 0);
            y.does(0, 0, 71, 1, 9, 0);
            y.does(0, 0, 80, 1, 4, 0);
            y.does(0, 0, 83, 1, 4, 4);
            y.does(1, 0, 81, 1, 0, 4);
            y.does(1, 0, 53, 1, 0, 4);
            y.does(1, 0, 85, 1, 0, 1);
            y.login(0, 0);
            Check.type(y, 0, "a=1;echo a > g; sleep 50&\nabc");
            y.tell(0, 0, 64, 1, 0, 0);
            y.step(15);
        });
    }

    /** "7 at first, then .. for each process 0 to 9, -1 if there is none, otherwise 100 times its version plus program". */
    private static void sumsOfVersions() {
        x = new KernelWorks();
        Check.program(x, 3, 43, 1, 0, 0);
        for (int p = 1; p <= 9; p++) {
            x.spawn(2, 0, 3);
        }
        for (int i = 0; i < 9; i++) {
            x.step(1);
        }
        long before = x.checksum();
        // A change adds 100 for the version, and sets the register 7 of a thread that is at the row 0 as before.
        Check.is("upgrade", x.upgrade(2, 9, 3), true);
        Check.is("the version of the last process", x.checksum() - before, 100);
        before = x.checksum();
        Check.is("upgrade", x.upgrade(2, 8, 3), true);
        Check.is("that of the one before", x.checksum() - before, 3100);
        before = x.checksum();
        Check.is("it waits, as it became ready", x.upgrade(2, 9, 4), false);
        Check.is("nothing", x.checksum(), before);
    }

    /** "a signal 4 or 8 that one of its rows sent (27, too) would end it": also as it waited first, being masked. */
    private static void takenBackLater() {
        for (int own = 0; own < 2; own++) {
            for (int ticks = 17; ticks <= 19; ticks++) {
                // Program 2 masks 8, divides by 0 or not, sleeps, and takes the mask away.
                x = new KernelWorks();
                Check.program(x, 1, 43, 1, 0, 0);
                Check.program(x, 2, 29, 0, 256, 0, own == 1 ? 5 : 0, 1, 1, 0, 33, ticks - 2, 0, 0, 29, 0, 0, 0, 33, 9, 0, 0);
                x.spawn(0, 0, 1);
                x.spawn(0, 0, -1);
                x.step(1);
                Check.is("upgrade", x.upgrade(0, 1, 2), true);
                x.step(3);
                if (own == 0) {
                    x.does(0, 1, 27, 1, 1, 8);
                }
                Check.is("it waits", x.process(0, 1, 'w'), 256);
                x.step(30);
                // The mask is taken away in the tick 2 + ticks; the change was at 1.
                boolean isBack = own == 1 && 2 + ticks <= 21;
                String text = Check.events(x, 3);
                Check.is("own " + own + ", at " + (2 + ticks) + ": " + text, text.contains("t1"), isBack);
                Check.is("otherwise it ends", text.contains("e1136"), !isBack);
                if (isBack) {
                    Check.is("it waits no more", x.process(0, 1, 'w'), 0);
                    Check.is("the mask stays as it became", x.process(0, 1, 'm'), 0);
                }
            }
        }
        // One that another process sent waits where one of its own had waited, and was gone.
        x = new KernelWorks();
        Check.program(x, 1, 43, 1, 0, 0);
        Check.program(x, 2, 29, 0, 256, 0, 5, 1, 1, 0, 28, 0, 8, -2, 29, 0, 0, 0, 29, 0, 256, 0, 28, 0, 8, -1,
            33, 6, 0, 0, 29, 0, 0, 0, 33, 60, 0, 0);
        x.spawn(0, 0, 1);
        x.spawn(0, 0, -1);
        x.step(1);
        Check.is("upgrade", x.upgrade(0, 1, 2), true);
        x.step(8);
        Check.is("nothing waits", x.process(0, 1, 'w'), 0);
        x.does(0, 1, 27, 1, 1, 8);
        Check.is("it waits", x.process(0, 1, 'w'), 256);
        x.step(10);
        Check.is("it was not its own", x.event(x.events() - 1, 'n'), 1136);
        // A signal that another process sent ends it, though one of its own waited before.
        x = new KernelWorks();
        Check.program(x, 1, 43, 1, 0, 0);
        Check.program(x, 2, 29, 0, 256, 0, 5, 1, 1, 0, 28, 0, 8, -2, 29, 0, 0, 0, 28, 0, 8, -1, 33, 60, 0, 0);
        x.spawn(0, 0, 1);
        x.spawn(0, 0, -1);
        x.step(1);
        Check.is("upgrade", x.upgrade(0, 1, 2), true);
        x.step(6);
        Check.is("what waited is gone", x.process(0, 1, 'w'), 0);
        x.does(0, 1, 27, 1, 1, 8);
        Check.is("ended", x.event(x.events() - 1, 'n'), 1136);
    }

    /** "what they waited for they wait for no more .. what a signal interrupted is forgotten": of all its threads. */
    private static void takenBackWhole() {
        x = new KernelWorks();
        Check.program(x, 1, 43, 1, 0, 0);
        Check.program(x, 2, 28, 0, 11, 7, 24, 0, 5, 0, 33, 4, 0, 0, 27, 0, 1, 11, 0, 0, 0, 0, 44, 1, 2, 7, 33, 99, 0, 0,
            99, 0, 0, 0);
        x.spawn(0, 0, 1);
        x.spawn(0, 0, -1);
        x.step(1);
        Check.is("upgrade", x.upgrade(0, 1, 2), true);
        x.step(4);
        Check.text("one calls", Check.waits(x, 0, 2), "m2");
        x.step(4);
        Check.text("taken back", Check.events(x, x.events() - 1), "t1");
        for (int t = 0; t < 3; t += 2) {
            Check.is("at the row 0", x.thread(0, t, 'r'), 0);
            Check.is("register 7", x.register(0, t, 7), -1);
        }
        Check.text("ready by their numbers", Check.waits(x, 0, 0) + Check.waits(x, 0, 2), "readyready");
        x.tell(0, 1, 45, 1, 0, 2);
        x.step(3);
        Check.text("the call is gone", Check.waits(x, 0, 1), "a2");
    }

    /** "what a signal interrupted is forgotten, signals do what they do at first": those that wait do it at once. */
    private static void changedWithSignals() {
        // Thread 0 is in what the signal 11 began as it waits at a queue.
        x = new KernelWorks();
        Check.program(x, 1, 28, 0, 11, 4, 43, 1, 0, 0, 8, 1, 0, 0, 0, 0, 0, 0, 43, 2, 1, 0, 30, 0, 0, 0);
        Check.program(x, 2, 33, 5, 0, 0, 30, 0, 0, 0);
        x.spawn(0, 0, 1);
        x.spawn(0, 0, -1);
        x.step(2);
        x.does(0, 1, 27, 1, 1, 11);
        x.step(2);
        Check.text("in what it began", Check.waits(x, 0, 0), "q1");
        Check.is("upgrade", x.upgrade(0, 1, 2), true);
        x.step(7);
        Check.text("30 is ill, and it is taken back", Check.events(x, 2), "s111 u1 s104 t1");
        x.step(2);
        Check.text("as at first", Check.waits(x, 0, 0), "q0");
        // Interrupted in that: it is at the 30, goes back, and begins it again.
        x.does(0, 1, 27, 1, 1, 11);
        x.step(2);
        Check.is("in what it began", x.thread(0, 0, 'r'), 4);
        x.does(0, 1, 27, 1, 1, 11);
        Check.is("at the 30", x.thread(0, 0, 'r'), 5);
        Check.is("it waits", x.process(0, 1, 'w'), 1 << 11);
        x.step(1);
        Check.is("at the row before", x.thread(0, 0, 'r'), 2);
        x.step(1);
        Check.is("in what it began", x.thread(0, 0, 'r'), 4);
        Check.is("it waits no more", x.process(0, 1, 'w'), 0);
        // Two threads: one is ready, so the other one is not interrupted, and 11 waits as both wait at queues.
        for (int late = 0; late < 2; late++) {
            x = new KernelWorks();
            Check.program(x, 1, 28, 0, 11, 5, 24, 1, 3, 0, 43, 1, 0, 0, 33, 9, 0, 0, 8, 4, 0, 0, 0, 0, 0, 0,
                0, 0, 0, 0, 0, 0, 0, 0, 0, 0, 0, 0, 0, 0, 0, 0, 0, 0, 0, 0, 43, 2, 1, 0, 30, 0, 0, 0);
            Check.program(x, 0, 33, 99, 0, 0);
            x.spawn(0, 1, 1);
            x.spawn(0, 0, -1);
            x.step(14);
            x.does(0, 1, 27, 1, 1, 11);
            x.step(1);
            Check.is("one is in what it began", x.thread(0, 2, 'r') > 4, true);
            x.does(0, 1, 27, 1, 1, 11);
            Check.text("the other one is not interrupted", Check.waits(x, 0, 0), "q0");
            Check.is("it waits", x.process(0, 1, 'w'), 1 << 11);
            if (late == 0) {
                Check.is("behind a row of one of them", x.upgrade(0, 1, 0), false);
            }
            int from = x.events();
            x.step(12);
            if (late == 1) {
                Check.text("both wait", Check.waits(x, 0, 0) + Check.waits(x, 0, 2), "q0q1");
                Check.is("as it is asked", x.upgrade(0, 1, 0), true);
            }
            Check.text("what waits does what it does at first", Check.events(x, from), "u1 s111 e1139");
        }
    }

    /** "an event is told with T": each of a packet that is lost, too. */
    private static void clocksOfEvents() {
        x = new KernelWorks();
        x.cut(0, 2, true);
        x.spawn(2, 0, -1);
        x.step(7);
        x.tell(2, 0, 84, 1, 5, 0);
        x.step(40);
        for (int i = 1; i < x.events(); i++) {
            Check.is("sign", x.event(i, 's'), 'l');
            Check.is("T", x.event(i, 't'), 8 + 16 * (i - 1));
            Check.is("of that from which it comes", x.event(i, 'm'), 2);
            Check.is("to which it goes", x.event(i, 'n'), 0);
        }
        Check.is("three", x.events(), 4);
    }

    public static void main(String[] args) {
        accounts();
        writtenCells();
        events();
        takenBack();
        waitsForAChange();
        shares();
        replays();
        sums();
        sound();
        toldNumbers();
        sumsOfVersions();
        takenBackLater();
        takenBackWhole();
        changedWithSignals();
        clocksOfEvents();
        Check.end("BoundsTogetherTest");
    }
}
