/** Part 1 of the terms, sentence by sentence where it names a bound: rows, operands, ticks, waits. */
public final class BoundsRowsTest {
    private static KernelWorks x;

    private static void row(String what, int due, int op, int b, int c) {
        Check.is(what, x.does(0, 0, op, 1, b, c), due);
    }

    /** "There are three, 0 to 2, all up at first, and one clock, T, 0 at first." */
    private static void atFirst() {
        x = new KernelWorks();
        for (int m = 0; m < 3; m++) {
            Check.is("up", x.isUp(m), true);
        }
        Check.fails("no machine 3", Check.ARGUMENT, () -> x.isUp(3));
        Check.is("T", x.time(), 0);
        Check.is("one tick", x.step(1), 1);
    }

    /** "Programs 0 to 15 have at most 24 rows each, numbered from 0, none at first". */
    private static void rowsOfPrograms() {
        x = new KernelWorks();
        x.spawn(0, 0, 0);
        x.step(1);
        Check.text("without rows it ends at once", Check.events(x, 0), "p1 e1000");
        for (int i = 0; i < 24; i++) {
            x.rows(15, i, 1, 1, 100 + i, 0, -1, 0, 0, 0);
        }
        x.spawn(0, 0, 15);
        x.step(1);
        Check.is("row 0", x.register(0, 0, 1), 100);
        x.step(22);
        Check.is("row 22", x.register(0, 0, 1), 122);
        Check.is("at the row 23", x.thread(0, 0, 'r'), 23);
        x.step(1);
        Check.is("row 23", x.register(0, 0, 1), 123);
        Check.is("at the number of rows", x.thread(0, 0, 'r'), 24);
        x.step(1);
        Check.fails("it ended", Check.INDEX, () -> x.thread(0, 0, 'r'));
    }

    /** "has eight registers, 0 to 7, which are ints that wrap, 0 at first." */
    private static void registers() {
        x = Check.driven(0);
        for (int r = 0; r < 8; r++) {
            Check.is("0 at first", x.register(0, 0, r), 0);
            Check.is("each has its own", x.does(0, 0, 1, r, 50 + r, 0), 50 + r);
        }
        for (int r = 0; r < 8; r++) {
            Check.is("register " + r, x.register(0, 0, r), 50 + r);
        }
        row("2 up to the greatest", Integer.MAX_VALUE, 2, Integer.MAX_VALUE - 1, 1);
        row("2 wraps", Integer.MIN_VALUE, 2, Integer.MAX_VALUE, 1);
        row("3 down to the least", Integer.MIN_VALUE, 3, Integer.MIN_VALUE + 1, 1);
        row("3 wraps", Integer.MAX_VALUE, 3, Integer.MIN_VALUE, 1);
        row("4 wraps", 0, 4, 1 << 16, 1 << 16);
        row("4 wraps", Integer.MIN_VALUE, 4, 1 << 16, 1 << 15);
        row("5 wraps", Integer.MIN_VALUE, 5, Integer.MIN_VALUE, -1);
        row("5 of the greatest", -Integer.MAX_VALUE, 5, Integer.MAX_VALUE, -1);
    }

    /** "An operand of 1000 to 1007 is what the register 0 to 7 has, any other one is itself". */
    private static void operands() {
        x = Check.driven(0);
        x.does(0, 0, 1, 0, 70, 0);
        x.does(0, 0, 1, 7, 77, 0);
        row("999", 999, 1, 999, 0);
        row("1000", 70, 1, 1000, 0);
        row("1007", 77, 1, 1007, 0);
        row("1008", 1008, 1, 1008, 0);
        row("-1000", -1000, 1, -1000, 0);
        row("c, too", 70 + 77, 2, 1000, 1007);
        row("c of 999 and 1008", 999 + 1008, 2, 999, 1008);
        row("c of 1000", 1000 + 70, 3, 1000, -1000);
        // V(a): of 11 what is stored.
        x.does(0, 0, 11, 1007, 0, 0);
        Check.is("V(a)", x.cell(0, 1, 0), 77);
        x.does(0, 0, 11, 1008, 0, 0);
        Check.is("V(a)", x.cell(0, 1, 0), 1008);
        x.does(0, 0, 11, 999, 0, 0);
        Check.is("V(a)", x.cell(0, 1, 0), 999);
    }

    private static boolean isIll(int op, int a, int c) {
        KernelWorks y = new KernelWorks();
        y.rows(0, 0, op, a, 0, c, 33, 50, 0, 0);
        y.spawn(0, 0, 0);
        y.step(1);
        for (int i = 0; i < y.events(); i++) {
            if (y.event(i, 's') == 's' && y.event(i, 'n') == 104) {
                Check.is("the signal 4 ends it", y.event(i + 1, 'n'), 1132);
                return true;
            }
        }
        return false;
    }

    /** "A row is ill if it has an R(..) that is no register, or an operation that there is not." */
    private static void illRows() {
        for (int op = 0; op < 100; op++) {
            boolean is = op <= 14 || op >= 20 && op <= 35 || op >= 40 && op <= 46 || op >= 50 && op <= 71
                || op >= 80 && op <= 86;
            // 30 is ill, too: this thread did not leave a row for a signal.
            Check.is("operation " + op, isIll(op, 0, 0), !is || op == 30);
            if (!is || op == 30) {
                continue;
            }
            boolean has = op != 0 && op != 8 && op != 9 && op != 11 && op != 22 && op != 26 && op != 33;
            Check.is("a of 7 in " + op, isIll(op, 7, 0), false);
            Check.is("a of 8 in " + op, isIll(op, 8, 0), has);
            Check.is("a of -1 in " + op, isIll(op, -1, 0), has);
            Check.is("a of 1000 in " + op, isIll(op, 1000, 0), has);
            boolean hasC = op == 45 || op == 52;
            Check.is("c of 7 in " + op, isIll(op, 0, 7), false);
            Check.is("c of 8 in " + op, isIll(op, 0, 8), hasC);
            Check.is("c of -1 in " + op, isIll(op, 0, -1), hasC);
        }
    }

    /**
     * "If it is at the number of rows of its program, it ends instead, as by 26 0; at any other number that is no row,
     * and with an ill row, the signal 4 is sent to its process, and it stays there."
     */
    private static void noRow() {
        int[][] due = {{2, 132}, {3, 0}, {4, 132}, {-1, 132}, {Integer.MAX_VALUE, 132}, {Integer.MIN_VALUE, 132}};
        for (int[] d : due) {
            x = new KernelWorks();
            Check.program(x, 0, 8, d[0], 0, 0, 0, 0, 0, 0, 99, 0, 0, 0);
            x.spawn(0, 0, 0);
            x.step(2);
            Check.is("gone to " + d[0], x.event(x.events() - 1, 'n'), 1000 + d[1]);
        }
        // With the signal 4 masked it stays there, and is asked anew.
        x = new KernelWorks();
        Check.program(x, 0, 29, 1, 16, 0, 8, 9, 0, 0);
        x.spawn(0, 0, 0);
        x.step(6);
        Check.is("it stays", x.thread(0, 0, 'r'), 9);
        Check.is("ready", x.thread(0, 0, 's'), 0);
        Check.is("it ran each time", x.process(0, 1, 't'), 6);
        Check.text("the signal waits once", Check.events(x, 0), "p1 s104");
        // As by 26 0: another thread goes on.
        x = new KernelWorks();
        Check.program(x, 0, 24, 1, 2, 0, 33, 30, 0, 0);
        x.spawn(0, 0, 0);
        x.step(3);
        Check.is("ended", x.thread(0, 1, 's'), 2);
        Check.is("with 0", x.thread(0, 1, 'v'), 0);
    }

    /** "by 0 the signal 8 (R(a) stays, the row is done)"; "rounded toward 0". */
    private static void divisions() {
        x = Check.driven(0);
        row("-1 / 2", 0, 5, -1, 2);
        row("1 / -2", 0, 5, 1, -2);
        row("-3 / 2", -1, 5, -3, 2);
        row("by 1", 8, 5, 8, 1);
        row("by -1", -8, 5, 8, -1);
        x.does(0, 0, 29, 2, 256, 0);
        row("by 0 R(a) stays", -8, 5, 8, 0);
        Check.is("the row is done", Check.waits(x, 0, 0).equals("h0"), true);
        Check.is("the signal 8 waits", x.process(0, 1, 'w'), 256);
        row("0 by 0", -8, 5, 0, 0);
        // In a program the thread is behind that row.
        x = new KernelWorks();
        Check.program(x, 0, 29, 0, 256, 0, 5, 1, 7, 0, 1, 2, 9, 0, 33, 99, 0, 0);
        x.spawn(0, 0, 0);
        x.step(2);
        Check.is("at the next one", x.thread(0, 0, 'r'), 2);
        x.step(1);
        Check.is("goes on", x.register(0, 0, 2), 9);
    }

    /** "6 R(a) becomes 1 if V(b) is less than V(c), otherwise 0; 7 likewise if both are the same." */
    private static void comparisons() {
        x = Check.driven(0);
        int[][] due = {{4, 5, 1, 0}, {5, 5, 0, 1}, {6, 5, 0, 0}, {-1, 0, 1, 0}, {0, -1, 0, 0},
            {Integer.MIN_VALUE, Integer.MAX_VALUE, 1, 0}, {Integer.MAX_VALUE, Integer.MIN_VALUE, 0, 0}};
        for (int[] d : due) {
            row(d[0] + " less than " + d[1], d[2], 6, d[0], d[1]);
            row(d[0] + " as " + d[1], d[3], 7, d[0], d[1]);
        }
    }

    /** "9 if V(a) is not 0, it is at the row V(b) then." */
    private static void jumps() {
        for (int v : new int[] {-1, 0, 1}) {
            x = new KernelWorks();
            Check.program(x, 0, 1, 1, v, 0, 9, 1001, 4, 0, 33, 9, 0, 0, 0, 0, 0, 0, 33, 9, 0, 0);
            x.spawn(0, 0, 0);
            x.step(2);
            Check.is("9 with " + v, x.thread(0, 0, 'r'), v == 0 ? 2 : 4);
        }
    }

    /** "the argument V(b) of its process, 0 to 63; 0 for other numbers." */
    private static void arguments() {
        x = new KernelWorks();
        // 13 characters are behind 13 to 52, those of the next word behind 54 to 63.
        Check.program(x, 0, 12, 0, 0, 0, 12, 1, 63, 0, 12, 2, 64, 0, 12, 3, -1, 0, 12, 4, 13, 0, 12, 5, 53, 0,
            43, 0, 0, 0);
        x.login(0, 0);
        Check.type(x, 0, "a=aaaaaaaaaabbbbbbbbbbccccccccccdddde\n");
        Check.type(x, 0, "0 $a$a $a\n");
        x.step(20);
        int[] due = {2, 'a', 0, 0, 'a', 0};
        for (int r = 0; r < 6; r++) {
            Check.is("12 in " + r, x.register(0, 1, r), due[r]);
        }
    }

    /** "the V(c)-th character, from 0, of V(b) written in decimal digits, with a '-' ahead if it is below 0". */
    private static void digits() {
        x = Check.driven(0);
        int[] numbers = {0, 9, 10, -1, -10, 1000000000, Integer.MAX_VALUE, Integer.MIN_VALUE, -999999999};
        for (int n : numbers) {
            String text = Integer.toString(n);
            for (int at : new int[] {0, 1, text.length() - 1}) {
                row(at + " of " + n, at < text.length() ? text.charAt(at) : 0, 14, n, at);
            }
            row("at the end of " + n, 0, 14, n, text.length());
            row("ahead of " + n, 0, 14, n, -1);
        }
        row("far behind", 0, 14, 12345, Integer.MAX_VALUE);
        row("far ahead", 0, 14, -12345, Integer.MIN_VALUE);
        row("10", 0, 14, 1234567890, 10);
        row("9", '0', 14, 1234567890, 9);
    }

    /** "if T is divisible by 8, frames age; by 16, the open transaction closes; by 32, all loads .. are halved, cut". */
    private static void divisibleTicks() {
        x = Check.driven(0);
        x.does(0, 0, 11, 1, 0, 0);
        x.step(6);
        Check.is("at 7", x.frame(0, 0, 'a'), 128);
        x.step(1);
        Check.is("at 8", x.frame(0, 0, 'a'), 192);
        x.step(1);
        Check.is("at 9", x.frame(0, 0, 'a'), 192);
        x.does(0, 0, 50, 1, 1, 6);
        x.step(5);
        Check.is("at 15", x.log(0, 'p'), 0);
        x.step(1);
        Check.is("at 16", x.log(0, 'p'), 1);
        Check.is("closed at 16", x.event(x.events() - 1, 't'), 16);
        // 31 ticks of work, halved at 32 ahead of the run: 31 / 2 and 1.
        x = new KernelWorks();
        Check.program(x, 0, 8, 0, 0, 0);
        x.spawn(0, 3, 0);
        x.step(31);
        Check.is("at 31", x.load(0, 3), 31);
        x.step(1);
        Check.is("at 32", x.load(0, 3), 15 + 1);
        x.step(1);
        Check.is("at 33", x.load(0, 3), 17);
        x.step(30);
        Check.is("at 63", x.load(0, 3), 47);
        x.step(1);
        Check.is("at 64", x.load(0, 3), 23 + 1);
        // A transaction that was closed at 16 is not free at 32: the next one closes at 48 at the earliest.
        x = Check.driven(0);
        x.step(15);
        x.does(0, 0, 50, 1, 1, 6);
        Check.is("at 16 just ahead of it", x.log(0, 'o'), 4);
        x.step(15);
        Check.is("at 31", x.log(0, 'p'), 0);
        x.step(1);
        Check.is("at 32", x.log(0, 'p'), 1);
    }

    /** "it is given up if the row has another operation by then." */
    private static void begunAndGivenUp() {
        // A call of 44 is given up as its row becomes another one; not as just its numbers change.
        for (int op : new int[] {44, 1}) {
            x = Check.driven(0, 0);
            Check.program(x, 0, 44, 1, 1, 7, 33, 99, 0, 0);
            x.spawn(0, 0, 0);
            x.step(1);
            Check.text("it waits for an answer", Check.waits(x, 0, 2), "m1");
            x.rows(0, 0, op, 2, 2, 8, -1, 0, 0, 0);
            Check.is("45", x.does(0, 0, 45, 1, 0, 2), 7);
            Check.is("who calls", x.register(0, 0, 2), 302);
            // Another call to the same process is answered: all that wait for it look anew.
            x.tell(0, 1, 44, 1, 1, 9);
            x.step(2);
            Check.is("45", x.does(0, 0, 45, 1, 0, 2), 9);
            Check.is("46", x.does(0, 0, 46, 1, 201, 3), 0);
            x.step(2);
            Check.text("of " + op, Check.waits(x, 0, 2), op == 44 ? "m1" : "t0");
            Check.is("46", x.does(0, 0, 46, 1, 302, 4), op == 44 ? 0 : -3);
            x.step(2);
            Check.is("R(a) as the row is by then", x.register(0, 2, 2), op == 44 ? 4 : 2);
        }
        // A name that was asked.
        for (int op : new int[] {84, 83}) {
            x = new KernelWorks();
            Check.program(x, 0, 84, 1, 5, 0, 33, 99, 0, 0);
            x.spawn(1, 0, 0);
            x.step(1);
            x.rows(0, 0, op, 1, 5, 3, -1, 0, 0, 0);
            x.step(6);
            Check.is("R(a)", x.register(1, 0, 1), op == 84 ? -2 : 0);
            x.step(1);
            Check.text("of " + op, Check.waits(x, 1, 0), op == 84 ? "t0" : "f0");
        }
        // A connection that was asked: its end is gone.
        for (int op : new int[] {81, 0}) {
            x = new KernelWorks();
            x.spawn(1, 0, -1);
            x.does(1, 0, 80, 1, 0, 0);
            Check.program(x, 0, 81, 1, 1, 0, 33, 99, 0, 0);
            x.spawn(0, 0, 0);
            x.step(1);
            Check.is("it asks", x.end(0, 0, 's'), 'o');
            x.rows(0, 0, op, 2, 2, 2, -1, 0, 0, 0);
            x.step(6);
            if (op == 81) {
                Check.is("it stands", x.end(0, 0, 's'), 'e');
                Check.is("R(a)", x.register(0, 0, 2), 0);
            } else {
                x.step(1);
                Check.fails("it is gone", Check.NONE, () -> x.end(0, 0, 's'));
            }
        }
    }

    /** "When several wait for the same, by sign and number, all of them become ready, in the order ..." */
    private static void severalWait() {
        x = Check.driven(0, 0, 0, 0);
        x.tell(0, 2, 43, 1, 0, 0);
        x.step(1);
        x.tell(0, 1, 43, 1, 0, 0);
        x.step(1);
        x.tell(0, 0, 43, 1, 1, 0);
        x.step(1);
        x.does(0, 3, 42, 1, 0, 5);
        Check.text("the first that waited", Check.waits(x, 0, 2), "ready");
        Check.text("the second, too", Check.waits(x, 0, 1), "ready");
        Check.text("not of another number", Check.waits(x, 0, 0), "q1");
        x.step(1);
        Check.is("the one that waited first runs first", x.ran(0), 2);
        Check.is("and has it", x.register(0, 2, 1), 5);
        x.step(1);
        Check.is("the other one looks", x.ran(0), 1);
        Check.text("and waits anew", Check.waits(x, 0, 1), "q0");
    }

    private static String interrupted(String due, int... rows) {
        // The row 0 tells that a row is gone to by the signal 11; behind the last one there is 30.
        x = new KernelWorks();
        x.link(0, 1, 1, 0, 0);
        int n = rows.length / 4 + 1;
        x.rows(0, 0, 28, 0, 11, 0, -1, 0, 0, 0);
        for (int i = 0; i + 1 < n; i++) {
            x.rows(0, i + 1, rows[4 * i], rows[4 * i + 1], rows[4 * i + 2], rows[4 * i + 3], -1, 0, 0, 0);
        }
        x.rows(0, n, 33, 99, 0, 0, 30, 0, 0, 0);
        x.rows(0, 0, 28, 0, 11, n + 1, -1, 0, 0, 0);
        x.spawn(0, 0, 0);
        x.spawn(0, 0, -1);
        for (int i = 0; i < 60 && !Check.waits(x, 0, 0).equals(due); i++) {
            x.step(1);
        }
        Check.text("it waits", Check.waits(x, 0, 0), due);
        Check.is("27", x.does(0, 1, 27, 1, 1, 11), 0);
        String now = Check.waits(x, 0, 0);
        return now.equals(due) ? "stays" : x.register(0, 0, 1) == -4 ? "-4" : "goes on";
    }

    /** "Waits for b, g, s, d and r cannot be interrupted." */
    private static void waitsThatCannotBeInterrupted() {
        Check.text("t", interrupted("t0", 33, 50, 0, 0), "goes on");
        Check.text("q", interrupted("q2", 43, 1, 2, 0), "-4");
        Check.text("p", interrupted("p0", 66, 2, 0, 0, 52, 3, 0, 1), "-4");
        Check.text("a", interrupted("a1", 45, 1, 0, 2), "-4");
        Check.text("m", interrupted("m2", 44, 1, 2, 5), "-4");
        Check.text("f", interrupted("f0", 84, 1, 5, 0), "-4");
        Check.text("x", interrupted("x0", 85, 1, 1, 1), "-4");
        Check.text("n", interrupted("n0", 81, 1, 1, 1), "-4");
        Check.text("n of a port", interrupted("n-4", 80, 2, 3, 0, 82, 1, 3, 0), "-4");
        Check.text("s", interrupted("s1", 50, 2, 1, 6, 64, 1, 0, 0), "stays");
        Check.text("g", interrupted("g0", 50, 2, 1, 6, 64, 2, 0, 0, 55, 1, 2, 0), "stays");
        Check.text("c", interrupted("c1", 20, 2, 0, 0, 9, 1002, 4, 0, 33, 90, 0, 0, 23, 1, 0, 0), "-4");
        Check.text("j", interrupted("j2", 33, 3, 0, 0, 24, 2, 5, 0, 25, 1, 1002, 0, 33, 90, 0, 0, 33, 90, 0, 0), "-4");
    }

    /** "Waits for b, .. d and r": of blocks that come, and of pages. */
    private static void blocksAndPages() {
        // 'b': a block that the disc is asked for.
        x = Check.driven(0);
        Check.row(x, 50, 1, 7);
        Check.row(x, 53, 0, 65);
        Check.row(x, 64, 0, 0);
        x.step(60);
        x.crash(0);
        x.boot(0);
        Check.program(x, 0, 28, 0, 11, 4, 50, 2, 1, 1, 52, 1, 0, 3, 33, 99, 0, 0, 33, 5, 0, 0);
        x.spawn(0, 0, 0);
        x.spawn(0, 0, -1);
        x.step(3);
        Check.text("it waits for the block", Check.waits(x, 0, 0), "b31");
        x.does(0, 1, 27, 1, 1, 11);
        Check.text("it waits still", Check.waits(x, 0, 0), "b31");
        // 'r' and 'd': a frame that must go, then a page that comes.
        x = new KernelWorks();
        Check.program(x, 0, 11, 1000, 1000, 0, 2, 0, 1000, 8, 6, 1, 1000, 64, 9, 1001, 0, 0, 33, 99, 0, 0);
        Check.program(x, 1, 28, 0, 11, 4, 11, 7, 0, 0, 10, 1, 0, 0, 33, 99, 0, 0, 33, 99, 0, 0);
        x.spawn(0, 0, 0);
        x.step(40);
        x.spawn(0, 0, 1);
        x.spawn(0, 0, -1);
        x.step(2);
        Check.text("it waits for any frame", Check.waits(x, 0, 1), "r0");
        x.does(0, 2, 27, 1, 2, 11);
        Check.text("it waits still", Check.waits(x, 0, 1), "r0");
        x = Check.driven(0, 0);
        for (int g = 0; g < 8; g++) {
            x.does(0, 0, 11, 7, 8 * g, 0);
        }
        x.does(0, 1, 11, 7, 0, 0);
        int page = 0;
        while (x.page(0, 1, page) != 's') {
            page++;
        }
        Check.program(x, 1, 28, 0, 11, 2, 10, 1, 8 * page, 0, 33, 99, 0, 0);
        x.does(0, 0, 20, 1, 0, 0);
        int gone = page;
        x.tell(0, 0, 10, 1, 8 * gone, 0);
        for (int i = 0; i < 30 && !Check.waits(x, 0, 0).startsWith("d"); i++) {
            x.step(1);
        }
        Check.text("it waits for the frame that comes", Check.waits(x, 0, 0).substring(0, 1), "d");
    }

    /** "A signal that a row sends to its own process does not hinder that the row is done." */
    private static void ownSignals() {
        x = new KernelWorks();
        Check.program(x, 0, 29, 0, 1 << 11, 0, 27, 1, 1, 11, 1, 2, 9, 0, 33, 99, 0, 0);
        x.spawn(0, 0, 0);
        x.step(2);
        Check.is("R(a)", x.register(0, 0, 1), 0);
        Check.is("at the next row", x.thread(0, 0, 'r'), 2);
        Check.is("it waits", x.process(0, 1, 'w'), 1 << 11);
        // One that stops it: the row is done, and it is ready, but stopped.
        x = new KernelWorks();
        Check.program(x, 0, 1, 1, 5, 0, 27, 1, 1, 9, 1, 2, 9, 0);
        x.spawn(0, 0, 0);
        x.step(5);
        Check.is("stopped", x.process(0, 1, 's'), 1);
        Check.is("R(a)", x.register(0, 0, 1), 0);
        Check.is("at the next row", x.thread(0, 0, 'r'), 2);
        Check.is("it runs no more", x.register(0, 0, 2), 0);
    }

    public static void main(String[] args) {
        atFirst();
        rowsOfPrograms();
        registers();
        operands();
        illRows();
        noRow();
        divisions();
        comparisons();
        jumps();
        arguments();
        digits();
        divisibleTicks();
        begunAndGivenUp();
        severalWait();
        waitsThatCannotBeInterrupted();
        blocksAndPages();
        ownSignals();
        Check.end("BoundsRowsTest");
    }
}
