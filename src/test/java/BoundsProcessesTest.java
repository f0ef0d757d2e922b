/** Part 2 of the terms, sentence by sentence where it names a bound: processes, threads, who runs, signals. */
public final class BoundsProcessesTest {
    private static KernelWorks x;

    private static void row(String what, int due, int op, int b, int c) {
        Check.is(what, x.does(0, 0, op, 1, b, c), due);
    }

    /** "0 is the first one: it has no thread, belongs to user 0, is driven, its own parent (it is no child), ..." */
    private static void theFirstProcess() {
        x = new KernelWorks();
        int[] due = {'p', 0, 'u', 0, 'g', -1, 'v', 0, 'd', 0, 's', 0, 'm', 0, 'w', 0, 'r', 4, 'l', 8, 't', 0, 'f', 0,
            'h', 0, 'c', 0};
        for (int i = 0; i < due.length; i += 2) {
            Check.is("0 at first: " + (char) due[i], x.process(1, 0, (char) due[i]), due[i + 1]);
        }
        x.spawn(1, 2, 3);
        Check.is("a child", x.process(1, 0, 'c'), 1);
        Check.is("its parent", x.process(1, 1, 'p'), 0);
        // "has .. the version 0, the directory 0, the priority 4, the limit 8, all arguments 0, .. one thread at row 0".
        int[] made = {'p', 0, 'u', 2, 'g', 3, 'v', 0, 'd', 0, 's', 0, 'm', 0, 'w', 0, 'r', 4, 'l', 8, 't', 0, 'f', 0,
            'h', 1, 'c', 0};
        for (int i = 0; i < made.length; i += 2) {
            Check.is("a new one: " + (char) made[i], x.process(1, 1, (char) made[i]), made[i + 1]);
        }
        Check.is("at the row 0", x.thread(1, 0, 'r'), 0);
        Check.is("ready", x.thread(1, 0, 's'), 0);
        x.login(1, 3);
        Check.is("a shell", x.process(1, 2, 'r') * 10 + x.process(1, 2, 'l'), 48);
        Check.is("a child of 0", x.process(1, 2, 'p'), 0);
    }

    /** "A machine has processes 0 to 9 .. A new process gets the lowest number that none has." */
    private static void numbersOfProcesses() {
        x = new KernelWorks();
        for (int p = 1; p <= 8; p++) {
            Check.is("spawn", x.spawn(0, 0, -1), p);
        }
        row("20 makes 9", 9, 20, 0, 0);
        row("20 without a number", -23, 20, 0, 0);
        Check.fails("spawn without a number", Check.STATE, () -> x.spawn(0, 0, -1));
        x.does(0, 2, 22, 0, 0, 0);
        x.does(0, 6, 22, 0, 0, 0);
        row("the lowest", 3, 20, 0, 0);
        Check.is("the next", x.spawn(0, 0, -1), 7);
        row("none", -23, 20, 0, 0);
        // One that ended keeps its number till it is taken by its parent.
        x.does(0, 2, 22, 7, 0, 0);
        row("none, as 3 is kept", -23, 20, 0, 0);
        row("23", 3007, 23, 0, 0);
        row("3 is free", 3, 20, 0, 0);
    }

    /** "Threads have numbers 0 to 13, a new one the lowest that none has; a thread that ended keeps its number ..." */
    private static void numbersOfThreads() {
        x = new KernelWorks();
        // 13 threads are made; the 14th is refused; each of them waits at its own queue row till it is told.
        Check.program(x, 0, 24, 2, 6, 0, 6, 3, 1002, 0, 9, 1003, 4, 0, 8, 0, 0, 0, 25, 4, 3, 0, 24, 5, 6, 0, 43, 1, 1, 0,
            26, 5, 0, 0);
        x.spawn(0, 0, 0);
        for (int i = 0; i < 120 && x.register(0, 0, 2) >= 0; i++) {
            x.step(1);
        }
        Check.is("without a free one", x.register(0, 0, 2), -23);
        Check.is("14 threads", x.process(0, 1, 'h'), 14);
        Check.is("the last one", x.thread(0, 13, 'p'), 1);
        x.step(40);
        Check.text("25 waits for 3", Check.waits(x, 0, 0), "j3");
        Check.fails("no room for a process", Check.STATE, () -> x.spawn(0, 0, -1));
        // Two threads get something and end; the number of 3 is free as it was joined, the other one is kept.
        x = new KernelWorks();
        Check.program(x, 0, 24, 2, 5, 0, 24, 3, 5, 0, 43, 1, 0, 0, 25, 4, 1, 0, 24, 5, 5, 0, 43, 1, 1, 0, 26, 9, 0, 0);
        x.spawn(0, 0, 0);
        x.spawn(0, 0, -1);
        x.step(9);
        Check.is("thread 2", x.register(0, 0, 2), 2);
        Check.is("thread 3", x.register(0, 0, 3), 3);
        for (int i = 0; i < 2; i++) {
            x.does(0, 1, 42, 1, 1, i);
            x.step(3);
        }
        Check.is("ended", x.thread(0, 2, 's'), 2);
        Check.is("kept", x.thread(0, 3, 'v'), 9);
        x.does(0, 1, 22, 0, 0, 0);
        x.spawn(0, 0, -1);
        Check.is("the lowest that none has", x.thread(0, 1, 'p'), 2);
        Check.fails("2 and 3 are kept", Check.INDEX, () -> x.thread(0, 4, 'p'));
    }

    /** "in a driven process each thread waits to be told ('h') .. such a thread is at the row 0 always." */
    private static void drivenProcesses() {
        x = Check.driven(0);
        Check.text("it waits to be told", Check.waits(x, 0, 0), "h0");
        row("1", 5, 1, 5, 0);
        Check.is("at the row 0", x.thread(0, 0, 'r'), 0);
        Check.text("it waits to be told again", Check.waits(x, 0, 0), "h0");
        for (int op = 0; op < 35; op++) {
            boolean ill = op == 8 || op == 9 || op == 24 || op == 28 || op == 30 || op > 14 && op < 20;
            KernelWorks y = Check.driven(0);
            y.does(0, 0, 29, 1, 1 << 4 | 1 << 8, 0);
            y.tell(0, 0, op, 0, 1, 1);
            y.step(1);
            boolean isIll = y.process(0, 0, 'c') > 0 && (y.process(0, 1, 'w') & 1 << 4) != 0;
            Check.is("ill " + op, isIll, ill);
            if (ill) {
                Check.text("it stays, and is done anew", Check.waits(y, 0, 0), "ready");
                Check.is("at the row 0", y.thread(0, 0, 'r'), 0);
            }
        }
    }

    /** "the one whose load, divided by the share, is least (compared without rounding), of several the lowest". */
    private static void loadsAndShares() {
        // 7 / 9 is less than 4 / 5, though both are 0 if rounded; 8 / 9 is not.
        x = Check.driven(1, 2);
        x.user(1, 0, 5, 40, 20);
        x.user(2, 0, 9, 40, 20);
        for (int i = 0; i < 4; i++) {
            x.does(0, 0, 0, 0, 0, 0);
        }
        for (int i = 0; i < 7; i++) {
            x.does(0, 1, 0, 0, 0, 0);
        }
        x.tell(0, 0, 0, 0, 0, 0);
        x.tell(0, 1, 0, 0, 0, 0);
        x.step(1);
        Check.is("7 / 9 against 4 / 5", x.ran(0), 1);
        x.tell(0, 1, 0, 0, 0, 0);
        x.step(1);
        Check.is("8 / 9 against 4 / 5", x.ran(0), 0);
        x.tell(0, 0, 0, 0, 0, 0);
        x.step(1);
        Check.is("8 / 9 against 5 / 5", x.ran(0), 1);
        x.step(1);
        x.tell(0, 0, 0, 0, 0, 0);
        x.tell(0, 1, 0, 0, 0, 0);
        Check.is("load", x.load(0, 1), 6);
        Check.is("load", x.load(0, 2), 9);
        x.step(1);
        Check.is("9 / 9 against 6 / 5", x.ran(0), 1);
        Check.program(x, 0, 8, 0, 0, 0);
        // The same: the lowest user, whatever its threads are.
        x = new KernelWorks();
        Check.program(x, 0, 8, 0, 0, 0);
        x.spawn(0, 4, 0);
        x.spawn(0, 3, 0);
        x.step(1);
        Check.is("the lowest user", x.ran(0), 1);
        x.step(3);
        Check.is("the greater load waits", x.ran(0), 0);
        x.step(3);
        Check.is("3 and 3: the lowest", x.ran(0), 1);
        // A share counts: 2 / 2 is as 1 / 1.
        x = new KernelWorks();
        Check.program(x, 0, 33, 1, 0, 0, 8, 0, 0, 0);
        x.user(3, 0, 2, 40, 20);
        x.spawn(0, 3, 0);
        x.step(1);
        Check.is("a load of 1", x.load(0, 3), 1);
        x.spawn(0, 2, -1);
        x.tell(0, 1, 0, 0, 0, 0);
        x.step(1);
        Check.is("0 is less than 1 / 2", x.ran(0), 1);
        x.tell(0, 1, 0, 0, 0, 0);
        x.step(1);
        Check.is("1 / 2 is less than 1", x.ran(0), 0);
    }

    /** "the one with the greatest rank, that is the priority .. and a quarter (cut) of the ticks since it became ready". */
    private static void ranks() {
        // The priority 5 against 4: the other one waits since 3, 4 and 5 ticks as the first one becomes ready anew.
        for (int ticks = 2; ticks <= 6; ticks++) {
            x = Check.driven(0, 0);
            x.does(0, 0, 32, 1, 5, 0);
            x.spawn(0, 1, -1);
            int t = x.time();
            // Thread 1 becomes ready now; user 1 has the least load and works first.
            x.tell(0, 1, 0, 0, 0, 0);
            x.does(0, 0, 34, 1, 0, 0);
            Check.is("the greater priority goes first", x.ran(0), 0);
            Check.is("in one tick", x.time(), t + 1);
            Check.text("the other one waits to run", Check.waits(x, 0, 1), "ready");
            for (int i = 1; i < ticks; i++) {
                x.does(0, 0, 34, 1, 0, 0);
            }
            boolean isSame = ticks >= 4;
            Check.is("behind " + ticks + " ticks", Check.waits(x, 0, 1).equals("ready"), !isSame);
        }
        // Of several with the same rank the one that became ready first.
        x = Check.driven(0, 0, 0);
        x.tell(0, 2, 0, 0, 0, 0);
        x.tell(0, 0, 0, 0, 0, 0);
        x.tell(0, 1, 0, 0, 0, 0);
        for (int t : new int[] {2, 0, 1}) {
            x.step(1);
            Check.is("by when they became ready", x.ran(0), t);
        }
        x.step(1);
        Check.is("none", x.ran(0), -1);
    }

    /** "anew behind each third time in a row that it ran, if it is ready then (.. the first .. was chosen anew)". */
    private static void thirdTimes() {
        x = new KernelWorks();
        Check.program(x, 0, 8, 0, 0, 0);
        // Two rows, then a sleep: it never runs three times in a row.
        Check.program(x, 1, 0, 0, 0, 0, 33, 1, 0, 0, 8, 0, 0, 0);
        x.spawn(0, 0, 0);
        x.spawn(0, 0, 0);
        x.spawn(0, 0, 0);
        int[] due = {0, 0, 0, 1, 1, 1, 2, 2, 2, 0, 0, 0, 1};
        for (int i = 0; i < due.length; i++) {
            x.step(1);
            Check.is("tick " + (i + 1), x.ran(0), due[i]);
        }
        // Alone it is chosen anew each fourth time, and runs all the same.
        x = new KernelWorks();
        Check.program(x, 0, 8, 0, 0, 0);
        x.spawn(0, 0, 0);
        x.step(2);
        x.spawn(0, 0, 0);
        x.step(1);
        Check.is("the third time", x.ran(0), 0);
        x.step(1);
        Check.is("then the other one, that became ready ahead", x.ran(0), 1);
        x.step(2);
        Check.is("three times", x.ran(0), 1);
        x.step(1);
        Check.is("then the first again", x.ran(0), 0);
        // One that waits in between begins to count anew.
        x = new KernelWorks();
        Check.program(x, 0, 8, 0, 0, 0);
        Check.program(x, 1, 0, 0, 0, 0, 33, 1, 0, 0, 0, 0, 0, 0, 0, 0, 0, 0, 0, 0, 0, 0, 8, 0, 0, 0);
        x.spawn(0, 0, 1);
        x.spawn(0, 0, 0);
        int[] two = {0, 0, 1, 1, 1, 0, 0, 0, 1, 1, 1, 0, 0, 0};
        for (int i = 0; i < two.length; i++) {
            x.step(1);
            Check.is("with a sleep, tick " + (i + 1), x.ran(0), two[i]);
        }
    }

    /** "20 .. it has the user, program, version, directory, files, arguments, what signals do, mask, priority and limit". */
    private static void copies() {
        x = Check.driven(3);
        x.spawn(0, 0, -1);
        x.does(0, 1, 61, 1, 0, 511);
        row("55", 0, 55, 1, 0);
        row("63", 0, 63, 1, 0);
        row("50", 0, 50, -2, 7);
        row("29", 0, 29, 70, 0);
        row("32", 4, 32, 2, 0);
        row("35", 8, 35, 5, 0);
        row("31", 0, 31, 300, 0);
        x.does(0, 1, 27, 1, 1, 6);
        Check.is("a signal waits", x.process(0, 1, 'w'), 64);
        x.does(0, 0, 1, 5, 55, 0);
        Check.is("20", x.does(0, 0, 20, 5, 0, 0), 3);
        Check.is("0 in its own thread", x.register(0, 2, 5), 0);
        Check.is("the registers of this one", x.register(0, 2, 1), x.register(0, 0, 1));
        int[] due = {'p', 1, 'u', 3, 'g', -1, 'v', 0, 'd', 1, 'm', 70, 'r', 2, 'l', 5, 'w', 0, 't', 0, 'h', 1};
        for (int i = 0; i < due.length; i += 2) {
            Check.is("the new one: " + (char) due[i], x.process(0, 3, (char) due[i]), due[i + 1]);
        }
        Check.is("its file is the same", x.does(0, 2, 53, 1, 0, 65), 1);
        Check.is("with its position", x.does(0, 0, 53, 1, 0, 66), 1);
        Check.is("size", x.inode(0, 2, 4), 2);
        Check.is("no alarm", x.does(0, 2, 31, 1, 0, 0), 0);
    }

    /** "22 the process ends with V(a) modulo 256 (0 to 255)"; "that ends with V(a) modulo 256 instead". */
    private static void values() {
        int[][] due = {{0, 0}, {255, 255}, {256, 0}, {257, 1}, {-1, 255}, {-255, 1}, {-256, 0}, {-257, 255},
            {Integer.MAX_VALUE, 255}, {Integer.MIN_VALUE, 0}};
        for (int op : new int[] {22, 26}) {
            for (int[] d : due) {
                x = Check.driven(0);
                x.does(0, 0, 20, 1, 0, 0);
                x.does(0, 1, op, d[0], 0, 0);
                Check.is(op + " with " + d[0], x.process(0, 2, 'x'), d[1]);
                row("23", 2000 + d[1], 23, 0, 0);
            }
        }
        // A thread that is not the last one keeps the whole number.
        x = new KernelWorks();
        Check.program(x, 0, 24, 1, 2, 0, 33, 99, 0, 0, 26, -300, 0, 0);
        x.spawn(0, 0, 0);
        x.step(4);
        Check.is("26", x.thread(0, 1, 'v'), -300);
    }

    /** "23 of the children that ended the lowest one is gone for good .. without children -10; if none ended, it waits". */
    private static void takingChildren() {
        x = Check.driven(0);
        row("without children", -10, 23, 0, 0);
        row("20", 2, 20, 0, 0);
        row("20", 3, 20, 0, 0);
        x.does(0, 2, 22, 3, 0, 0);
        x.does(0, 1, 22, 2, 0, 0);
        row("the lowest that ended", 2002, 23, 0, 0);
        row("the next", 3003, 23, 0, 0);
        row("without children", -10, 23, 0, 0);
        row("20", 2, 20, 0, 0);
        x.tell(0, 0, 23, 1, 0, 0);
        x.step(1);
        Check.text("none ended", Check.waits(x, 0, 0), "c1");
        x.does(0, 1, 22, 9, 0, 0);
        x.step(1);
        Check.is("23", x.register(0, 0, 1), 2009);
    }

    /** "24 a thread is made, at the row V(b) (0 up to the number of rows, otherwise -22)". */
    private static void rowsOfThreads() {
        int[][] due = {{-1, -22}, {0, 1}, {2, 1}, {3, 1}, {4, -22}, {Integer.MAX_VALUE, -22}, {Integer.MIN_VALUE, -22}};
        for (int[] d : due) {
            x = new KernelWorks();
            Check.program(x, 0, 24, 1, d[0], 0, 33, 99, 0, 0, 33, 99, 0, 0);
            x.spawn(0, 0, 0);
            x.step(1);
            Check.is("24 at " + d[0], x.register(0, 0, 1), d[1]);
            Check.is("threads", x.process(0, 1, 'h'), d[1] == 1 ? 2 : 1);
            if (d[1] == 1) {
                Check.is("its row", x.thread(0, 1, 'r'), d[0]);
                Check.is("registers as they were", x.register(0, 1, 1), 0);
            }
        }
    }

    /** "25 .. -3 if it is not another one of this process". */
    private static void joins() {
        // Thread 0 is of another process, 1 is the own one, 2 is another one, all others there are not.
        for (int t : new int[] {Integer.MIN_VALUE, -1, 0, 1, 2, 3, 13, 14, Integer.MAX_VALUE}) {
            x = Check.driven(0);
            Check.program(x, 0, 24, 1, 4, 0, 33, 9, 0, 0, 25, 2, t, 0, 33, 99, 0, 0, 26, 77, 0, 0);
            x.spawn(0, 0, 0);
            x.step(13);
            Check.is("25 of " + t, x.register(0, 1, 2), t == 2 ? 77 : -3);
        }
        x = new KernelWorks();
        Check.program(x, 0, 24, 1, 3, 0, 25, 2, 1001, 0, 33, 99, 0, 0, 33, 5, 0, 0, 26, 77, 0, 0);
        x.spawn(0, 0, 0);
        x.step(4);
        Check.text("it waits for its end", Check.waits(x, 0, 0), "j1");
        x.step(9);
        Check.is("25", x.register(0, 0, 2), 77);
        Check.fails("its number is free", Check.INDEX, () -> x.thread(0, 1, 's'));
    }

    /** "21 the process has the program V(b), 0 to 27, from its first row on (otherwise R(a) is -22)". */
    private static void newPrograms() {
        for (int program : new int[] {-1, 28, 29, Integer.MIN_VALUE, Integer.MAX_VALUE}) {
            x = Check.driven(0);
            row("21 with " + program, -22, 21, program, 0);
            Check.is("program", x.process(0, 1, 'g'), -1);
        }
        for (int program : new int[] {0, 15, 16, 27}) {
            x = Check.driven(0);
            x.does(0, 0, 1, 4, 44, 0);
            row("21 with " + program, -1002, 21, program, 0);
            Check.is("program", x.process(0, 1, 'g'), program);
            Check.is("registers are 0", x.register(0, 0, 4), 0);
            Check.is("at the first row", x.thread(0, 0, 'r'), 0);
        }
        // Its other threads are gone as if they had ended: their locks are broken. What a signal interrupted is gone.
        x = new KernelWorks();
        Check.program(x, 0, 28, 0, 11, 6, 24, 1, 4, 0, 33, 3, 0, 0, 27, 0, 1, 11, 40, 2, 3, 0, 43, 6, 0, 0,
            11, 5, 9, 0, 21, 0, 1, 0);
        Check.program(x, 1, 30, 0, 0, 0);
        x.spawn(0, 0, 0);
        for (int i = 0; i < 20 && x.process(0, 1, 'g') == 0; i++) {
            x.step(1);
        }
        Check.is("program", x.process(0, 1, 'g'), 1);
        Check.is("one thread", x.process(0, 1, 'h'), 1);
        Check.is("broken", x.lock(0, 3, 'b'), 1);
        Check.is("nobody has it", x.lock(0, 3, 'h'), -1);
        Check.is("its pages are gone", x.page(0, 1, 1), 'n');
        x.step(2);
        Check.text("30 is ill: what was interrupted is forgotten", Check.events(x, x.events() - 1), "e1132");
    }

    /** "27 .. -22 if there is no such signal, -3 if there is no such process, it is 0 or has ended, -1 if its user ..." */
    private static void sending() {
        x = Check.driven(1, 1, 2, 0);
        for (int s : new int[] {Integer.MIN_VALUE, -1, 0, 12, Integer.MAX_VALUE}) {
            row("signal " + s, -22, 27, 2, s);
            row("ahead of the process", -22, 27, 0, s);
        }
        for (int p : new int[] {Integer.MIN_VALUE, -1, 0, 5, 9, 10, Integer.MAX_VALUE}) {
            row("process " + p, -3, 27, p, 1);
            row("process " + p, -3, 27, p, 11);
        }
        row("of another user", -1, 27, 3, 5);
        row("of user 0", -1, 27, 4, 5);
        row("the own user", 0, 27, 2, 5);
        row("itself", 0, 27, 1, 10);
        Check.is("user 0 may all", x.does(0, 3, 27, 1, 3, 5), 0);
        row("signal 1", 0, 27, 2, 1);
        row("it has ended", -3, 27, 2, 11);
        Check.is("signal 11", x.does(0, 3, 27, 1, 3, 11), 0);
        Check.text("events", Check.events(x, 4), "s201 e2129 s311 e3139");
        // A child that ended and is not taken yet has ended.
        row("20", 2, 20, 0, 0);
        x.does(0, 1, 22, 0, 0, 0);
        row("it has ended", -3, 27, 2, 1);
    }

    private static int act(int signal, int to) {
        x = new KernelWorks();
        Check.program(x, 0, 28, 1, signal, to, 33, 99, 0, 0, 0, 0, 0, 0);
        x.spawn(0, 0, 0);
        x.step(1);
        return x.register(0, 0, 1);
    }

    /** "28 by the signal V(b), not 3 and 9, a row is gone to: V(c), 0 up to the number of rows, or -1 .. or -2". */
    private static void rowsOfSignals() {
        for (int s = -1; s <= 13; s++) {
            boolean may = s >= 1 && s <= 11 && s != 3 && s != 9;
            Check.is("28 of the signal " + s, act(s, 2), may ? -1 : -22);
        }
        for (int to = -4; to <= 5; to++) {
            boolean may = to >= -2 && to <= 3;
            Check.is("28 to " + to, act(11, to), may ? -1 : -22);
        }
        Check.is("28 to far", act(11, Integer.MAX_VALUE), -22);
        Check.is("28 to far", act(11, Integer.MIN_VALUE), -22);
        // "R(a) is what it was".
        x = new KernelWorks();
        Check.program(x, 0, 28, 1, 11, 5, 28, 2, 11, -2, 28, 3, 11, -1, 28, 4, 11, 0, 33, 99, 0, 0);
        x.spawn(0, 0, 0);
        x.step(4);
        Check.is("at first", x.register(0, 0, 1), -1);
        Check.is("a row", x.register(0, 0, 2), 5);
        Check.is("nothing", x.register(0, 0, 3), -2);
        Check.is("as at first", x.register(0, 0, 4), -1);
        // A row at the number of rows: the thread ends there.
        x = new KernelWorks();
        Check.program(x, 0, 28, 1, 11, 2, 33, 99, 0, 0);
        x.spawn(0, 0, 0);
        x.spawn(0, 0, -1);
        x.step(1);
        x.does(0, 1, 27, 1, 1, 11);
        x.step(2);
        Check.text("it ends", Check.events(x, 2), "s111 e1000");
    }

    /** "29 the mask becomes the bits of V(b) for signals 1 to 11 but 3 and 9 (bit k for signal k)". */
    private static void masks() {
        x = Check.driven(0);
        row("at first", 0, 29, 1 << 0, 0);
        for (int k = 0; k < 32; k++) {
            boolean may = k >= 1 && k <= 11 && k != 3 && k != 9;
            x.does(0, 0, 29, 1, 1 << k, 0);
            Check.is("bit " + k, x.process(0, 1, 'm'), may ? 1 << k : 0);
        }
        row("what it was", 0, 29, 2, 0);
        row("what it was", 2, 29, -1, 0);
        row("all", 0xFFE & ~8 & ~512, 29, 0, 0);
        // 3 and 9 cannot be masked, 2 and 4 can.
        for (int s = 1; s <= 11; s++) {
            x = Check.driven(0, 0);
            row("29", 0, 29, -1, 0);
            x.does(0, 1, 27, 1, 1, s);
            String due = s == 3 ? "s103 e1131" : s == 9 ? "s109" : s == 5 || s == 10 ? "" : "s1" + (s < 10 ? "0" : "") + s;
            Check.text("masked " + s, Check.events(x, 2), due);
            if (s != 3) {
                Check.is("waits " + s, x.process(0, 1, 'w'), s == 9 || s == 5 || s == 10 ? 0 : 1 << s);
            }
        }
    }

    /** "31 behind V(b) ticks the signal 7 is sent to the process; 0 none .. -22 below 0." */
    private static void alarms() {
        for (int ticks : new int[] {1, 2, 9}) {
            x = Check.driven(0);
            row("29", 0, 29, 1 << 7, 0);
            row("31", 0, 31, ticks, 0);
            int set = x.time();
            x.step(ticks);
            Check.is("the signal 7 waits", x.process(0, 1, 'w'), 1 << 7);
            Check.is("behind " + ticks, x.event(x.events() - 1, 't'), set + ticks);
        }
        x = Check.driven(0);
        row("29", 0, 29, 1 << 7, 0);
        row("31", 0, 31, 3, 0);
        x.step(2);
        Check.is("not yet", x.process(0, 1, 'w'), 0);
        x.step(1);
        Check.is("behind 3", x.process(0, 1, 'w'), 1 << 7);
        row("none is left behind that", 0, 31, 5, 0);
        row("what is left", 4, 31, 0, 0);
        x.step(9);
        row("0 is none", 0, 31, 8, 0);
        row("below 0", -22, 31, -1, 0);
        row("below 0", -22, 31, Integer.MIN_VALUE, 0);
        row("it takes the place", 5, 31, Integer.MAX_VALUE, 0);
        row("far ahead", Integer.MAX_VALUE - 1, 31, 2, 0);
        row("the last tick of it", 1, 31, 1, 0);
    }

    /** "32 the priority becomes V(b), 0 to 7, otherwise -22; more than it is: -1, unless the user is 0". */
    private static void priorities() {
        for (int user : new int[] {0, 1}) {
            x = Check.driven(user);
            for (int v : new int[] {Integer.MIN_VALUE, -1, 8, Integer.MAX_VALUE}) {
                row("32 with " + v, -22, 32, v, 0);
            }
            row("more", user == 0 ? 4 : -1, 32, 5, 0);
            row("7", user == 0 ? 5 : -1, 32, 7, 0);
            row("the same", user == 0 ? 7 : 4, 32, user == 0 ? 7 : 4, 0);
            row("less", user == 0 ? 7 : 4, 32, 3, 0);
            row("one more", user == 0 ? 3 : -1, 32, 4, 0);
            row("0", user == 0 ? 4 : 3, 32, 0, 0);
            Check.is("priority", x.process(0, 1, 'r'), 0);
        }
    }

    /** "33 the thread sleeps for V(a) ticks ('t'; below 1 as 1): the row is done as it begins". */
    private static void sleeps() {
        int[][] due = {{Integer.MIN_VALUE, 1}, {-1, 1}, {0, 1}, {1, 1}, {2, 2}, {3, 3}};
        for (int[] d : due) {
            x = new KernelWorks();
            Check.program(x, 0, 33, d[0], 0, 0, 13, 1, 0, 0, 33, 99, 0, 0);
            x.spawn(0, 0, 0);
            x.step(1);
            Check.text("it sleeps", Check.waits(x, 0, 0), "t0");
            Check.is("the row is done", x.thread(0, 0, 'r'), 1);
            x.step(9);
            Check.is("33 with " + d[0], x.register(0, 0, 1), 1 + d[1]);
            // A driven one waits to be told as they are over, without a run.
            x = Check.driven(0);
            x.does(0, 0, 33, d[0], 0, 0);
            Check.is("driven", x.time(), 1 + d[1]);
            Check.is("without a run", x.process(0, 1, 't'), 1);
        }
        x = Check.driven(0);
        x.tell(0, 0, 33, Integer.MAX_VALUE, 0, 0);
        x.step(400);
        Check.text("for ever", Check.waits(x, 0, 0), "t0");
    }

    /** "34 R(a) is, by V(b), the number of the process (0) .. the version (4); otherwise -22." */
    private static void tellings() {
        x = Check.driven(0, 0, 3);
        int[][] due = {{-1, -22}, {0, 3}, {1, 2}, {2, 0}, {3, 3}, {4, 0}, {5, -22}, {Integer.MIN_VALUE, -22}};
        for (int[] d : due) {
            Check.is("34 with " + d[0], x.does(0, 2, 34, 1, d[0], 0), d[1]);
        }
        Check.is("20", x.does(0, 2, 20, 1, 0, 0), 4);
        Check.is("the parent", x.does(0, 3, 34, 1, 2, 0), 3);
    }

    /** "35 the limit becomes V(b), 0 to 8, otherwise -22; R(a) is what it was." */
    private static void limits() {
        x = Check.driven(0);
        row("-1", -22, 35, -1, 0);
        row("9", -22, 35, 9, 0);
        row("8", 8, 35, 8, 0);
        row("0", 8, 35, 0, 0);
        row("1", 0, 35, 1, 0);
        row("least", -22, 35, Integer.MIN_VALUE, 0);
        Check.is("limit", x.process(0, 1, 'l'), 1);
    }

    /** "At first 5 and 10 do nothing, 9 stops the process, .. all others end it with 128 and the signal." */
    private static void atFirst() {
        for (int s = 1; s <= 11; s++) {
            x = Check.driven(0, 0);
            Check.is("27", x.does(0, 1, 27, 1, 1, s), 0);
            String number = "s1" + (s < 10 ? "0" : "") + s;
            String due = s == 5 || s == 10 ? "" : s == 9 ? number : number + " e" + (1128 + s);
            Check.text("the signal " + s, Check.events(x, 2), due);
            if (s == 9) {
                Check.is("stopped", x.process(0, 1, 's'), 1);
                Check.is("27", x.does(0, 1, 27, 1, 1, 9), 0);
                Check.text("not again", Check.events(x, 2), due);
                Check.is("27", x.does(0, 1, 27, 1, 1, 10), 0);
                Check.is("goes on", x.process(0, 1, 's'), 0);
                Check.is("27", x.does(0, 1, 27, 1, 1, 10), 0);
                Check.text("not again", Check.events(x, 2), due + " s110");
            }
        }
        // "To the shell 2, 5, 7, 9 and 10 do nothing."
        for (int s = 1; s <= 11; s++) {
            x = Check.driven(0);
            x.login(0, 0);
            Check.is("27", x.does(0, 0, 27, 1, 2, s), 0);
            boolean none = s == 2 || s == 5 || s == 7 || s == 9 || s == 10;
            Check.text("to a shell " + s, Check.events(x, 2), none ? "" : "s2" + (s < 10 ? "0" : "") + s + " e" + (2128 + s));
        }
    }

    /** "if it is masked, or a row is gone to by it, it waits (once; another one then is gone)". */
    private static void waitingOnce() {
        x = new KernelWorks();
        Check.program(x, 0, 28, 0, 11, 3, 43, 0, 0, 0, 8, 1, 0, 0, 2, 5, 1005, 1, 30, 0, 0, 0);
        x.spawn(0, 0, 0);
        x.spawn(0, 1, -1);
        x.spawn(0, 0, -1);
        x.step(2);
        // The process is stopped, so that what waits is not done.
        x.does(0, 2, 27, 1, 1, 9);
        int from = x.events();
        x.does(0, 2, 27, 1, 1, 11);
        x.does(0, 2, 27, 1, 1, 11);
        Check.text("once", Check.events(x, from), "s111");
        Check.is("it waits", x.process(0, 1, 'w'), 1 << 11);
        x.does(0, 2, 27, 1, 1, 10);
        x.step(20);
        Check.is("done once", x.register(0, 0, 5), 1);
        x.does(0, 2, 27, 1, 1, 11);
        x.step(5);
        Check.is("and again", x.register(0, 0, 5), 2);
    }

    /** "and no thread of the process is ready, the lowest one that waits, and can be interrupted, gives up its row". */
    private static void whoIsInterrupted() {
        // Thread 1 and 2 of a process: one is ready, so nobody is interrupted.
        x = new KernelWorks();
        Check.program(x, 0, 28, 0, 11, 4, 24, 1, 3, 0, 43, 2, 0, 0, 43, 3, 1, 0, 30, 0, 0, 0, 8, 5, 0, 0);
        x.spawn(0, 0, 0);
        x.spawn(0, 0, -1);
        x.step(6);
        Check.text("0 waits", Check.waits(x, 0, 0), "q0");
        Check.text("2 waits", Check.waits(x, 0, 2), "q1");
        x.does(0, 1, 27, 1, 1, 11);
        Check.is("the lowest one", x.register(0, 0, 2), -4);
        Check.text("the other one waits", Check.waits(x, 0, 2), "q1");
        x.step(2);
        Check.is("at the next row", x.thread(0, 0, 'r'), 3);
        // One that is ready, though the process is stopped, is ready.
        x = new KernelWorks();
        Check.program(x, 0, 28, 0, 11, 4, 24, 1, 5, 0, 43, 2, 0, 0, 0, 0, 0, 0, 30, 0, 0, 0, 8, 5, 0, 0);
        x.spawn(0, 0, 0);
        x.spawn(0, 0, -1);
        x.step(5);
        x.does(0, 1, 27, 1, 1, 9);
        x.does(0, 1, 27, 1, 1, 11);
        Check.text("nobody is interrupted", Check.waits(x, 0, 0), "q0");
        Check.is("it waits", x.process(0, 1, 'w'), 1 << 11);
    }

    /** "in 52 an R(c), and R(a) stays; an operation that there is not has none". */
    private static void givenUpRows() {
        int[][] rows = {{43, 1, 3, 0}, {52, 1, 0, 2}, {99, 1, 0, 0}, {43, 8, 3, 0}, {45, 1, 0, 9}, {45, 1, 0, 2},
            {52, 9, 0, 2}, {52, 1, 0, 9}, {0, 1, 0, 0}, {33, 1, 0, 0}, {22, 1, 0, 0}};
        int[][] due = {{-4, 0}, {0, -4}, {0, 0}, {0, 0}, {-4, 0}, {-4, 0}, {0, -4}, {0, 0}, {0, 0}, {0, 0}, {0, 0}};
        for (int i = 0; i < rows.length; i++) {
            x = new KernelWorks();
            Check.program(x, 0, 28, 0, 11, 4, 43, 5, 3, 0, 33, 99, 0, 0, 0, 0, 0, 0, 30, 0, 0, 0);
            x.spawn(0, 0, 0);
            x.spawn(0, 0, -1);
            x.step(2);
            x.rows(0, 1, rows[i][0], rows[i][1], rows[i][2], rows[i][3], -1, 0, 0, 0);
            x.does(0, 1, 27, 1, 1, 11);
            String what = "interrupted in " + rows[i][0] + " " + rows[i][1] + " " + rows[i][3];
            Check.is(what, x.register(0, 0, 1), due[i][0]);
            Check.is(what, x.register(0, 0, 2), due[i][1]);
            Check.is(what + " is at the next row", x.thread(0, 0, 'r'), 2);
            Check.text(what + " is ready", Check.waits(x, 0, 0), "ready");
        }
    }

    /** "When the mask, or what is done by a signal, changes, signals that wait .. are as sent now, the lowest first." */
    private static void lowestFirst() {
        x = Check.driven(0, 0);
        row("29", 0, 29, 0xFFE, 0);
        for (int s : new int[] {11, 8, 2, 6}) {
            x.does(0, 1, 27, 1, 1, s);
        }
        int from = x.events();
        row("29", 0xFFE - 8 - 512, 29, 0xFFE, 0);
        Check.text("all are masked still", Check.events(x, from), "");
        row("29", -1001, 29, 1 << 2, 0);
        Check.text("the lowest that is not masked", Check.events(x, from), "s106 e1134");
        // By 28 to -2 it is gone, by -1 it does what it does at first.
        for (int to : new int[] {-2, -1}) {
            x = new KernelWorks();
            Check.program(x, 0, 29, 0, 1 << 11, 0, 43, 1, 0, 0, 28, 0, 11, 0, 29, 0, 0, 0, 28, 0, 11, to, 33, 99, 0, 0);
            x.spawn(0, 0, 0);
            x.spawn(0, 0, -1);
            x.step(2);
            x.does(0, 1, 27, 1, 1, 11);
            Check.is("it waits", x.process(0, 1, 'w'), 1 << 11);
            x.does(0, 1, 42, 1, 0, 1);
            // Told to be done by no row ahead of the 29.
            x.rows(0, 2, 28, 0, 11, to, -1, 0, 0, 0);
            x.step(4);
            Check.text("by " + to, Check.events(x, 3), to == -2 ? "" : "s111 e1139");
        }
    }

    /** ".. are as sent now, the lowest first": all of them, also those behind one that ended the process. */
    private static void allAreAsSent() {
        int may = 0xFFE - 8 - 512;
        int ends = may - 32 - 1024;
        for (int pending = 0; pending <= ends; pending += 2) {
            if ((pending & ~ends) != 0) {
                continue;
            }
            // Those that are masked, and just those, wait still.
            for (int kept : new int[] {0, pending & 2, pending & 4 + 128, pending & 2048 + 64, pending, may}) {
                String what = "of " + pending + " with the mask " + kept;
                x = Check.driven(0);
                row("20", 2, 20, 0, 0);
                x.does(0, 1, 29, 0, -1, 0);
                for (int s = 11; s > 0; s--) {
                    if ((pending >> s & 1) != 0) {
                        row("27", 0, 27, 2, s);
                    }
                }
                Check.is(what + " wait", x.process(0, 2, 'w'), pending);
                int sent = pending & ~kept;
                int from = x.events();
                Check.is(what, x.does(0, 1, 29, 1, kept, 0), sent != 0 ? -1001 : may);
                Check.is(what + " wait still", x.process(0, 2, 'w'), pending & kept);
                int lowest = Integer.numberOfTrailingZeros(sent);
                // What is sent to a process that has ended is no event.
                Check.text(what, Check.events(x, from), sent == 0 ? "" : "s" + (200 + lowest) + " e" + (2128 + lowest));
            }
        }
        x = Check.driven(0);
        row("20", 2, 20, 0, 0);
        x.does(0, 1, 29, 0, -1, 0);
        row("27", 0, 27, 2, 8);
        row("27", 0, 27, 2, 3);
        Check.is("ended by 3: it waits still", x.process(0, 2, 'w'), 1 << 8);
        Check.is("ended by 3", x.process(0, 2, 'x'), 131);
    }

    /** The same as what is done by signals changes: by 28, 21, a change of the program, and as that is taken back. */
    private static void allAreAsSentByActs() {
        // A row is gone to by 1, 2, 6 and 11; by 11 it was, and the others wait meanwhile, and 7, which is masked.
        for (int way = 0; way < 4; way++) {
            x = new KernelWorks();
            for (int program = 0; program < 2; program++) {
                Check.program(x, program, program == 0 ? 20 : 0, 0, 0, 0, 9, 1000, 13, 0, 28, 0, 1, 9, 28, 0, 2, 9,
                    28, 0, 6, 9, 28, 0, 11, 9, 29, 0, 1 << 7, 0, 43, 5, 2, 0, 8, 7, 0, 0, 43, 4, 0, 0, 43, 4, 0, 0,
                    43, 4, 0, 0, 43, 4, 0, 0, 43, 4, 1, 0);
            }
            x.spawn(0, 0, 0);
            x.spawn(0, 0, -1);
            x.step(20);
            if (way == 3) {
                Check.is("changed at once", x.upgrade(0, 3, 1), true);
                x.step(8);
            }
            // For way 3 all this happens within 20 ticks.
            for (int s : new int[] {11, 7, 6, 2, 1}) {
                x.does(0, 1, 27, 1, 3, s);
                if (s == 11 || s == 1) {
                    x.step(1);
                }
            }
            Check.is("in the row for 11", x.thread(0, 2, 'r'), 12);
            Check.is("they wait", x.process(0, 3, 'w'), 1 << 1 | 1 << 2 | 1 << 6 | 1 << 7);
            int from = x.events();
            if (way == 2) {
                Check.is("changed at once", x.upgrade(0, 3, 1), true);
            } else {
                int op = way == 0 ? 28 : way == 1 ? 21 : 99;
                x.rows(way == 3 ? 1 : 0, 12, op, 0, way == 1 ? 2 : 1, -1, -1, 0, 0, 0);
                x.does(0, 1, 42, 1, 0, 9);
                x.step(3);
            }
            String due = way == 2 ? "u3 s301 e3129" : way == 3 ? "s304 t3 s301 e3129" : "s301 e3129";
            Check.text("events of the way " + way, Check.events(x, from), due);
            // By 28 it changes for one of them alone.
            int left = way == 0 ? 1 << 2 | 1 << 6 | 1 << 7 : 1 << 7;
            Check.is("what waits, the way " + way, x.process(0, 3, 'w'), left);
        }
    }

    /** "its children become those of 0, .. then, if its parent is 0, it is gone, otherwise the signal 5 is sent to that". */
    private static void ends() {
        x = Check.driven(0);
        row("20", 2, 20, 0, 0);
        Check.is("20", x.does(0, 1, 20, 1, 0, 0), 3);
        Check.is("20", x.does(0, 2, 20, 1, 0, 0), 4);
        Check.is("children", x.process(0, 2, 'c'), 1);
        x.does(0, 1, 22, 5, 0, 0);
        Check.is("one whose parent is not 0 stays", x.process(0, 2, 's'), 2);
        Check.is("its child is one of 0", x.process(0, 3, 'p'), 0);
        Check.is("children of the parent", x.process(0, 1, 'c'), 1);
        x.does(0, 2, 22, 5, 0, 0);
        Check.fails("one whose parent is 0 is gone", Check.INDEX, () -> x.process(0, 3, 's'));
        Check.is("its child is one of 0", x.process(0, 4, 'p'), 0);
        // Children of 0: 1 and 4; 2 has ended, and is gone with its parent.
        Check.is("children of 0", x.process(0, 0, 'c'), 2);
        x.does(0, 0, 22, 0, 0, 0);
        Check.fails("gone", Check.INDEX, () -> x.process(0, 2, 's'));
        Check.is("children of 0", x.process(0, 0, 'c'), 1);
        // Masked, the signal 5 does nothing still; with a row told for it, it waits.
        x = new KernelWorks();
        Check.program(x, 0, 29, 0, 1 << 5, 0, 28, 0, 5, 4, 20, 1, 0, 0, 9, 1001, 6, 0, 22, 3, 0, 0, 30, 0, 0, 0,
            33, 9, 0, 0, 29, 0, 0, 0, 33, 99, 0, 0);
        x.spawn(0, 0, 0);
        x.step(7);
        Check.is("it waits", x.process(0, 1, 'w'), 1 << 5);
    }

    /** "nothing else": what a process with this number had before is not there. */
    private static void numbersUsedAgain() {
        x = Check.driven(0, 0);
        row("55", 0, 55, 1, 0);
        row("63", 0, 63, 1, 0);
        row("29", 0, 29, -1, 0);
        row("27", 0, 27, 1, 11);
        row("31", 0, 31, 300, 0);
        row("32", 4, 32, 7, 0);
        row("35", 8, 35, 3, 0);
        row("50", 0, 50, -2, 7);
        x.does(0, 0, 11, 5, 0, 0);
        x.does(0, 1, 27, 1, 1, 9);
        x.does(0, 1, 27, 1, 1, 3);
        Check.is("the same number", x.spawn(0, 3, -1), 1);
        int[] due = {'p', 0, 'u', 3, 'g', -1, 'v', 0, 'd', 0, 's', 0, 'm', 0, 'w', 0, 'r', 4, 'l', 8, 't', 0, 'f', 0,
            'h', 1, 'c', 0};
        for (int i = 0; i < due.length; i += 2) {
            Check.is("a new one: " + (char) due[i], x.process(0, 1, (char) due[i]), due[i + 1]);
        }
        row("no alarm", 0, 31, 0, 0);
        row("no file", -9, 51, 0, 0);
        Check.is("no page", x.page(0, 1, 0), 'n');
        // A version and a change that waits.
        x = new KernelWorks();
        Check.program(x, 0, 43, 1, 0, 0, 33, 50, 0, 0);
        Check.program(x, 1, 43, 1, 0, 0);
        Check.program(x, 2, 22, 0, 0, 0);
        x.spawn(0, 0, 0);
        x.spawn(0, 0, -1);
        x.step(1);
        Check.is("upgrade", x.upgrade(0, 1, 0), true);
        x.step(1);
        x.does(0, 1, 42, 1, 0, 9);
        x.step(2);
        Check.is("one that waits", x.upgrade(0, 1, 2), false);
        x.does(0, 1, 27, 1, 1, 3);
        Check.is("the same number", x.spawn(0, 0, 1), 1);
        x.step(3);
        Check.is("version", x.process(0, 1, 'v'), 0);
        Check.is("no change waits", x.process(0, 1, 'g'), 1);
        Check.text("it waits itself", Check.waits(x, 0, 0), "q0");
        // A thread that was in what a signal began, and one that ended with a value.
        x = new KernelWorks();
        Check.program(x, 0, 28, 0, 11, 2, 27, 0, 1, 11, 22, 0, 0, 0);
        Check.program(x, 1, 30, 0, 0, 0);
        x.spawn(0, 0, 0);
        x.step(4);
        x.spawn(0, 0, 1);
        x.step(1);
        Check.is("30 is ill", x.event(x.events() - 1, 'n'), 1132);
    }

    /** "if it is masked .. it waits": nobody is interrupted by that; "it is not masked" then, and the row 0 is a row. */
    private static void maskedWithARow() {
        x = new KernelWorks();
        Check.program(x, 0, 9, 1006, 7, 0, 28, 0, 11, 0, 29, 0, 1 << 11, 0, 1, 6, 1, 0, 43, 0, 0, 0, 29, 1, 0, 0,
            33, 99, 0, 0, 2, 5, 1005, 1, 30, 0, 0, 0);
        x.spawn(0, 0, 0);
        x.spawn(0, 0, -1);
        x.step(6);
        Check.text("it waits", Check.waits(x, 0, 0), "q0");
        x.does(0, 1, 27, 1, 1, 11);
        Check.text("it waits still", Check.waits(x, 0, 0), "q0");
        Check.is("so does the signal", x.process(0, 1, 'w'), 1 << 11);
        x.does(0, 1, 42, 1, 0, 77);
        x.step(1);
        Check.is("R(a) of the row", x.register(0, 0, 0), 77);
        x.step(1);
        Check.is("unmasked", x.process(0, 1, 'm'), 0);
        x.step(1);
        Check.is("the row 0 is gone to", x.thread(0, 0, 'r'), 7);
        Check.is("it is gone", x.process(0, 1, 'w'), 0);
        x.step(2);
        Check.is("back at the row", x.thread(0, 0, 'r'), 6);
        Check.is("done once", x.register(0, 0, 5), 1);
        // Interrupted with a row 0 told for the signal, R(0), and at the row 0.
        x = new KernelWorks();
        Check.program(x, 0, 43, 0, 3, 0, 33, 99, 0, 0, 30, 0, 0, 0);
        Check.program(x, 1, 28, 0, 11, 0, 8, 0, 0, 0, 30, 0, 0, 0);
        x.spawn(0, 0, 1);
        x.spawn(0, 0, -1);
        x.step(1);
        x.rows(1, 0, 43, 0, 3, 0, -1, 0, 0, 0);
        x.step(2);
        Check.text("at the row 0", Check.waits(x, 0, 0), "q3");
        x.does(0, 1, 27, 1, 1, 11);
        Check.is("R(0)", x.register(0, 0, 0), -4);
        Check.is("at the next row", x.thread(0, 0, 'r'), 1);
        // A child that ends: the row 0 is told for the signal 5.
        x = new KernelWorks();
        Check.program(x, 0, 28, 0, 5, 0, 20, 1, 0, 0, 9, 1001, 5, 0, 33, 3, 0, 0, 22, 0, 0, 0, 43, 2, 3, 0,
            33, 99, 0, 0);
        x.spawn(0, 0, 0);
        x.step(9);
        Check.is("interrupted by the signal 5", x.register(0, 0, 2), -4);
    }

    /** "the lowest one that waits": of 14 threads, the last one too. */
    private static void theLastThread() {
        x = new KernelWorks();
        // 11 threads that end and keep their numbers, and one that waits: 13 is the only one that did not end.
        Check.program(x, 0, 28, 0, 11, 9, 2, 2, 1002, 1, 6, 1, 1002, 12, 9, 1001, 6, 0, 24, 0, 8, 0, 26, 0, 0, 0,
            24, 0, 5, 0, 8, 1, 0, 0, 43, 4, 3, 0, 33, 99, 0, 0);
        x.spawn(0, 0, -1);
        x.spawn(0, 0, 0);
        x.step(100);
        Check.is("one did not end", x.process(0, 2, 'h'), 1);
        Check.text("the last one", Check.waits(x, 0, 13), "q3");
        x.does(0, 0, 27, 1, 2, 11);
        Check.is("it is interrupted", x.register(0, 13, 4), -4);
    }

    /** "gives up its row": what that began is gone at once, also if the process is stopped and does not run. */
    private static void givenUpAtOnce() {
        int[][] rows = {{44, 1, 2, 7}, {81, 1, 1, 3}, {85, 1, 1, 4}};
        for (int[] r : rows) {
            x = new KernelWorks();
            x.link(0, 1, 9, 0, 0);
            Check.program(x, 0, 28, 0, 11, 3, r[0], r[1], r[2], r[3], 33, 99, 0, 0, 30, 0, 0, 0);
            x.spawn(0, 0, 0);
            x.spawn(0, 0, -1);
            x.step(2);
            x.does(0, 1, 27, 1, 1, 9);
            x.does(0, 1, 27, 1, 1, 11);
            Check.is("R(a) of " + r[0], x.register(0, 0, 1), -4);
            Check.is("it does not run", x.process(0, 1, 's'), 1);
            if (r[0] == 44) {
                x.tell(0, 1, 45, 1, 0, 2);
                x.step(1);
                Check.text("there is no call", Check.waits(x, 0, 1), "a2");
            } else if (r[0] == 81) {
                Check.fails("there is no end", Check.NONE, () -> x.end(0, 0, 's'));
            } else {
                x.tell(0, 1, 85, 1, 1, 5);
                x.step(1);
                Check.is("another one may ask", x.packets(1), 2);
            }
        }
        // The same as a change is taken back: an answer to a call that was taken comes too late, in the next tick.
        x = Check.driven(0);
        x.does(0, 0, 32, 1, 7, 0);
        Check.program(x, 1, 43, 1, 0, 0);
        Check.program(x, 2, 24, 0, 3, 0, 33, 9, 0, 0, 99, 0, 0, 0, 44, 1, 1, 7, 33, 99, 0, 0);
        x.spawn(0, 0, 1);
        x.step(1);
        Check.is("upgrade", x.upgrade(0, 2, 2), true);
        x.step(3);
        Check.is("45", x.does(0, 0, 45, 1, 0, 2), 7);
        int caller = x.register(0, 0, 2);
        int events = x.events();
        for (int i = 0; i < 20 && x.events() == events; i++) {
            x.step(1);
        }
        Check.text("taken back", Check.events(x, events), "s204 t2");
        x.tell(0, 0, 46, 1, caller, 5);
        x.step(1);
        Check.is("it runs first", x.ran(0), 0);
        Check.is("nobody waits for it", x.register(0, 0, 1), -3);
    }

    /** "of the children that ended the lowest one": process 1, too. "24 .. with the registers of this one as they were". */
    private static void lowestNumbers() {
        x = Check.driven(0, 0);
        x.does(0, 0, 22, 0, 0, 0);
        Check.is("20 makes 1", x.does(0, 1, 20, 1, 0, 0), 1);
        x.does(0, 0, 22, 6, 0, 0);
        Check.is("23 of 1", x.does(0, 1, 23, 1, 0, 0), 1006);
        Check.is("20 makes 1", x.does(0, 1, 20, 1, 0, 0), 1);
        Check.is("20 makes 3", x.does(0, 0, 20, 1, 0, 0), 3);
        x.does(0, 1, 22, 0, 0, 0);
        Check.is("the children of 2 are those of 0", x.process(0, 1, 'p'), 0);
        Check.is("those of 1 are not", x.process(0, 3, 'p'), 1);
        // Registers of a new thread, all eight, and the join of thread 0 by another one.
        x = new KernelWorks();
        Check.program(x, 0, 1, 0, 10, 0, 1, 7, 17, 0, 24, 3, 5, 0, 26, 44, 0, 0, 0, 0, 0, 0, 33, 9, 0, 0, 25, 2, 0, 0,
            33, 99, 0, 0);
        x.spawn(0, 0, 0);
        x.step(3);
        Check.is("register 0", x.register(0, 1, 0), 10);
        Check.is("register 7", x.register(0, 1, 7), 17);
        Check.is("R(a) is not there yet", x.register(0, 1, 3), 0);
        x.step(15);
        Check.is("25 of 0", x.register(0, 1, 2), 44);
    }

    /** "20 .. what signals do .. version .. arguments": of a program; "registers of this one, behind this row". */
    private static void copiesOfPrograms() {
        x = new KernelWorks();
        Check.program(x, 0, 43, 0, 0, 0);
        Check.program(x, 1, 28, 0, 11, 8, 1, 6, 66, 0, 12, 5, 63, 0, 20, 7, 0, 0, 28, 4, 11, -1, 34, 3, 4, 0,
            12, 5, 13, 0, 33, 99, 0, 0);
        x.spawn(0, 0, 0);
        x.step(1);
        Check.is("upgrade", x.upgrade(0, 1, 1), true);
        x.step(12);
        Check.is("behind this row", x.thread(0, 1, 'r'), 8);
        Check.is("registers", x.register(0, 1, 6), 66);
        Check.is("0 in its own thread", x.register(0, 1, 7), 0);
        Check.is("its number in the other", x.register(0, 0, 7), 2);
        Check.is("what signals do", x.register(0, 1, 4), 8);
        Check.is("the version", x.register(0, 1, 3), 1);
        Check.is("the version", x.process(0, 2, 'v'), 1);
        // Arguments, up to 63: a program of the shell makes a process.
        x = new KernelWorks();
        Check.program(x, 0, 20, 7, 0, 0, 12, 1, 0, 0, 12, 2, 63, 0, 12, 3, 13, 0, 33, 99, 0, 0);
        x.login(0, 0);
        Check.type(x, 0, "a=0123456789012345678901234567890123456\n");
        Check.type(x, 0, "0 $a'xyz' abcdefghij\n");
        x.step(20);
        Check.is("a child", x.process(0, 3, 'p'), 2);
        Check.is("argument 0", x.register(0, 2, 1), 2);
        Check.is("argument 63", x.register(0, 2, 2), 'j');
        Check.is("argument 13", x.register(0, 2, 3), '0');
        // 21 forgets the version, a change that waits, one that could be taken back, and what a signal interrupted.
        x = new KernelWorks();
        Check.program(x, 0, 43, 0, 0, 0);
        Check.program(x, 1, 33, 2, 0, 0, 21, 0, 2, 0);
        Check.program(x, 2, 33, 1, 0, 0, 43, 1, 1, 0, 99, 0, 0, 0);
        Check.program(x, 3, 22, 0, 0, 0);
        x.spawn(0, 0, 0);
        x.spawn(0, 0, -1);
        x.step(1);
        Check.is("upgrade", x.upgrade(0, 1, 1), true);
        x.step(1);
        Check.is("one that waits", x.upgrade(0, 1, 3), false);
        x.step(7);
        Check.is("version", x.process(0, 1, 'v'), 0);
        Check.is("the change is forgotten", x.process(0, 1, 'g'), 2);
        Check.text("it waits for nothing", Check.waits(x, 0, 0), "q1");
        x.does(0, 1, 42, 1, 1, 5);
        x.step(2);
        Check.is("it is not taken back", x.event(x.events() - 1, 'n'), 1132);
        x = new KernelWorks();
        Check.program(x, 0, 28, 0, 11, 2, 27, 0, 1, 11, 21, 0, 1, 0);
        Check.program(x, 1, 33, 1, 0, 0, 33, 1, 0, 0, 30, 0, 0, 0, 33, 99, 0, 0);
        x.spawn(0, 0, 0);
        x.step(12);
        Check.is("30 is ill behind 21", x.event(x.events() - 1, 'n'), 1132);
    }

    /** "The one that ran last on this machine runs on, if it can and did not become ready since." */
    private static void readySince() {
        // Thread 1 has run once, runs on at 4 though user 2 has less load, and waits for the lock of thread 0. At 5 the
        // alarm of that comes: the lock is broken, and thread 1 became ready since, so user 2 runs.
        for (int alarm = 3; alarm <= 5; alarm++) {
            x = Check.driven(3);
            row("40", 0, 40, 0, 0);
            row("31", 0, 31, alarm, 0);
            Check.program(x, 0, 0, 0, 0, 0, 40, 0, 0, 0, 1, 5, 1, 0, 33, 99, 0, 0);
            Check.program(x, 1, 8, 0, 0, 0);
            x.spawn(0, 1, 0);
            x.spawn(0, 2, 1);
            int[] due = {1, 1, 2};
            for (int i = 0; i < due.length; i++) {
                x.step(1);
                Check.is("at " + x.time() + " with the alarm of " + alarm, x.ran(0), due[i]);
            }
            Check.text("it is ready as the alarm comes", Check.waits(x, 0, 1), alarm == 3 ? "ready" : "l0");
        }
    }

    public static void main(String[] args) {
        theFirstProcess();
        numbersOfProcesses();
        numbersOfThreads();
        drivenProcesses();
        loadsAndShares();
        ranks();
        thirdTimes();
        copies();
        values();
        takingChildren();
        rowsOfThreads();
        joins();
        newPrograms();
        sending();
        rowsOfSignals();
        masks();
        alarms();
        priorities();
        sleeps();
        tellings();
        limits();
        atFirst();
        waitingOnce();
        whoIsInterrupted();
        givenUpRows();
        lowestFirst();
        allAreAsSent();
        allAreAsSentByActs();
        ends();
        numbersUsedAgain();
        maskedWithARow();
        theLastThread();
        givenUpAtOnce();
        lowestNumbers();
        copiesOfPrograms();
        readySince();
        Check.end("BoundsProcessesTest");
    }
}
