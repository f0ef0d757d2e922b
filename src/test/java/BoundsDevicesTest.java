/** Part 7 of the terms, sentence by sentence where it names a bound: the disc, the terminal, the printer. */
public final class BoundsDevicesTest {
    private static KernelWorks x;

    private static void row(String what, int due, int op, int b, int c) {
        Check.is(what, Check.row(x, op, b, c), due);
    }

    /** "it takes 2 ticks, and a tenth of the distance, cut, that one not counted, and the arm is there at once". */
    private static void distances() {
        // A page goes to the block 70: a distance of 70 takes 9 ticks behind the one in which it begins.
        x = Check.driven(0, 0);
        Check.is("the arm at first", x.disc(0, 'a'), 0);
        Check.is("nothing is done", x.disc(0, 'b') * 10 + x.disc(0, 'l'), -10);
        for (int page = 0; page < 8; page++) {
            x.does(0, 0, 11, 1, 8 * page, 0);
        }
        x.tell(0, 1, 11, 1, 0, 0);
        x.step(1);
        Check.is("asked", x.disc(0, 'q'), 1);
        Check.is("not begun", x.disc(0, 'b'), -1);
        for (int left = 9; left > 0; left--) {
            x.step(1);
            Check.is("block", x.disc(0, 'b'), 70);
            Check.is("left", x.disc(0, 'l'), left);
            Check.is("the arm is there at once", x.disc(0, 'a'), 70);
            Check.is("begun", x.disc(0, 'q'), 0);
            Check.is("not written yet", x.block(0, 70, 0), 0);
        }
        x.step(1);
        Check.is("done in that tick", x.block(0, 70, 0), 1);
        Check.is("nothing is done", x.disc(0, 'b'), -1);
        Check.is("the arm stays", x.disc(0, 'a'), 70);
        // The record: from 5 to 1 no tick more; the blocks 10 and 0: from 10 to 0 one tick more.
        x = Check.driven(0);
        row("61", 0, 61, 0, 7);
        x.tell(0, 0, 64, 1, 0, 0);
        x.step(2);
        Check.is("2 is a distance of 2", x.disc(0, 'l'), 2);
        x.step(3);
        Check.is("1 is a distance of 1", x.disc(0, 'b') * 10 + x.disc(0, 'l'), 12);
        x.step(3);
        Check.is("10 is a distance of 9", x.disc(0, 'b') * 10 + x.disc(0, 'l'), 102);
        x.step(3);
        Check.is("1 is a distance of 9", x.disc(0, 'b') * 10 + x.disc(0, 'l'), 12);
        x = Check.driven(0);
        row("50", 0, 50, 1, 6);
        x.tell(0, 0, 64, 1, 0, 0);
        int[][] due = {{2, 2}, {3, 2}, {4, 2}, {5, 2}, {1, 2}, {10, 2}, {11, 2}, {30, 3}, {0, 5}, {1, 2}};
        x.step(1);
        for (int[] d : due) {
            x.step(1);
            Check.is("block", x.disc(0, 'b'), d[0]);
            Check.is("ticks of " + d[0], x.disc(0, 'l'), d[1]);
            x.step(d[1]);
            Check.is("done", x.disc(0, 'b'), -1);
        }
    }

    /** "the one of the least block that is not less than where the arm is, otherwise of the least block". */
    private static void order() {
        // While 33 is read 31, 35 and 32 are asked, in this order: 35 is not less than 33, then 31 is the least.
        x = Check.driven(0);
        for (int n = 1; n <= 5; n++) {
            row("50", 0, 50, n, 7);
            row("53", 1, 53, 0, n);
            row("51", 0, 51, 0, 0);
        }
        row("64", 0, 64, 0, 0);
        x.step(80);
        x.crash(0);
        x.boot(0);
        int[] files = {3, 1, 5, 2};
        for (int t = 0; t < 4; t++) {
            x.spawn(0, 0, -1);
            Check.is("50", x.does(0, t, 50, 1, files[t], 1), 0);
        }
        for (int t = 0; t < 4; t++) {
            x.tell(0, t, 52, 1, 0, 2);
        }
        x.step(2);
        Check.is("33 is begun", x.disc(0, 'b') * 10 + x.disc(0, 'l'), 335);
        x.step(5);
        Check.is("the others are asked", x.disc(0, 'q'), 3);
        for (int b : new int[] {35, 31, 32}) {
            x.step(1);
            Check.is("then", x.disc(0, 'b'), b);
            Check.is("with 2 ticks", x.disc(0, 'l'), 2);
            x.step(2);
        }
        for (int t = 0; t < 4; t++) {
            x.step(1);
            Check.is("52", x.register(0, t, 1), files[t]);
        }
    }

    /** "of several with that the one asked first"; "one that is to be read .. is asked of the disc, if not done yet". */
    private static void askedOnce() {
        x = Check.driven(0);
        row("50", 0, 50, 1, 7);
        row("53", 1, 53, 0, 7);
        row("64", 0, 64, 0, 0);
        x.step(80);
        x.crash(0);
        x.boot(0);
        for (int t = 0; t < 3; t++) {
            x.spawn(0, t == 2 ? 1 : 0, -1);
            Check.is("50", x.does(0, t, 50, 1, 1, 1), 0);
        }
        for (int t = 0; t < 3; t++) {
            x.tell(0, t, 52, 1, 0, 2);
        }
        x.step(3);
        Check.is("one read for three", x.disc(0, 'q') + (x.disc(0, 'b') == 31 ? 1 : 0), 1);
        for (int t = 0; t < 3; t++) {
            Check.text("all wait for it", Check.waits(x, 0, t), "b31");
        }
        Check.is("it counts for who asked", x.account(0, 0, 'r') + x.account(0, 1, 'r'), 1);
        x.step(12);
        for (int t = 0; t < 3; t++) {
            Check.is("52", x.register(0, t, 1), 7);
        }
        // While another block is read one is asked by two: once, too.
        x = Check.driven(0);
        for (int n = 1; n <= 3; n++) {
            row("50", 0, 50, n, 7);
            row("53", 1, 53, 0, n);
            row("51", 0, 51, 0, 0);
        }
        row("64", 0, 64, 0, 0);
        x.step(80);
        x.crash(0);
        x.boot(0);
        int[] files = {3, 2, 2, 1};
        for (int t = 0; t < 4; t++) {
            x.spawn(0, 0, -1);
            Check.is("50", x.does(0, t, 50, 1, files[t], 1), 0);
        }
        for (int t = 0; t < 4; t++) {
            x.tell(0, t, 52, 1, 0, 2);
        }
        x.step(4);
        Check.is("33 is read", x.disc(0, 'b'), 33);
        Check.is("32 and 31 are asked, each once", x.disc(0, 'q'), 2);
        Check.is("three in all", x.account(0, 0, 'r'), 3);
        x.step(20);
        for (int t = 0; t < 4; t++) {
            Check.is("52", x.register(0, t, 1), files[t]);
        }
        Check.is("three in all", x.account(0, 0, 'r'), 3);
    }

    /** "32 to 126 come to the line that is begun, if that has fewer than 40; .. others do nothing." */
    private static void keysOfALine() {
        x = new KernelWorks();
        for (int key = 1; key < 256; key++) {
            boolean comes = key >= 32 && key <= 126;
            int before = x.keys(0, false);
            x.type(0, key, 0, 0, 0, 0);
            Check.is("key " + key, x.keys(0, false), key == 3 || key == 4 || key == 10 || key == 21 ? 0
                : key == 8 ? Math.max(0, before - 1) : comes ? 1 : before);
            // Of a line with one key: 8 takes it away.
            if (comes) {
                x.type(0, 8, 0, 0, 0, 0);
            }
        }
        Check.is("an end by 4, and the 10", x.keys(0, true), 2);
        for (int n = 1; n <= 42; n++) {
            x.type(0, 0, 0, 0, 0, 'a' + n % 26);
            Check.is("fewer than 40", x.keys(0, false), Math.min(n, 40));
        }
        x.type(0, 8, 0, 0, 0, 0);
        Check.is("39", x.keys(0, false), 39);
        x.type(0, 'x', 0, 0, 0, 0);
        Check.is("40", x.keys(0, false), 40);
        Check.is("all 40, and the 10", x.type(0, 10, 0, 0, 0, 0), 2 + 41);
        // "8 takes the last one away, 21 all", also if there is none.
        x.type(0, 8, 8, 21, 21, 0);
        Check.is("none", x.keys(0, false), 0);
        x.type(0, 'a', 'b', 21, 'c', 8);
        Check.is("none", x.keys(0, false), 0);
        x.type(0, 'a', 'b', 'c', 26, 0);
        Check.is("26 leaves the line", x.keys(0, false), 3);
        x.type(0, 3, 0, 0, 0, 0);
        Check.is("3 takes it away", x.keys(0, false), 0);
    }

    /** "the bytes of the numbers, the highest one of each first; those that are 0 are left out." */
    private static void bytes() {
        x = new KernelWorks();
        x.login(0, 0);
        // e c h o, then a blank, letters from all five numbers, and the 10.
        Check.is("typed", x.type(0, 0x6563686f20000000L, 0x0061000000000000L, 0x62, 0x6300000000000000L, 0x0000006400000a00L), 10);
        x.step(60);
        Check.text("in their order", Check.shown(x, 0), "abcd\n");
        Check.is("-1 is eight times 255", x.type(0, -1L, -1L, -1L, -1L, -1L), 0);
        Check.is("nothing", x.keys(0, false), 0);
        Check.is("40 keys", x.type(0, 0x6161616161616161L, 0x6161616161616161L, 0x6161616161616161L, 0x6161616161616161L,
            0x6161616161616161L), 0);
        Check.is("40 keys", x.keys(0, false), 40);
    }

    /** "4, if it is empty, is an end that can be read, otherwise the line can be read without a 10". */
    private static void ends() {
        x = new KernelWorks();
        Check.is("an end", x.type(0, 4, 0, 0, 0, 0), 1);
        Check.is("a line of one", x.type(0, 'a', 4, 0, 0, 0), 2);
        Check.is("one more end", x.type(0, 4, 0, 0, 0, 0), 3);
        Check.is("an empty line is its 10", x.type(0, 10, 0, 0, 0, 0), 4);
        Check.is("none is begun", x.keys(0, false), 0);
        // "A line that would make more than 160 keys and ends that can be read is gone instead."
        for (int i = 0; i < 156; i++) {
            x.type(0, 4, 0, 0, 0, 0);
        }
        Check.is("160", x.keys(0, true), 160);
        Check.is("an end more", x.type(0, 4, 0, 0, 0, 0), 160);
        Check.is("a 10 more", x.type(0, 10, 0, 0, 0, 0), 160);
        Check.is("a line more", x.type(0, 'a', 4, 0, 0, 0), 160);
        Check.is("it is gone", x.keys(0, false), 0);
        // With 159 there is room for one.
        for (int line = 0; line <= 3; line++) {
            x = new KernelWorks();
            for (int i = 0; i < 158; i++) {
                x.type(0, 4, 0, 0, 0, 0);
            }
            for (int i = 0; i < line; i++) {
                x.type(0, 'a', 0, 0, 0, 0);
            }
            Check.is("158 and a line of " + line + " with its 10", x.type(0, 10, 0, 0, 0, 0), line + 1 <= 2 ? 159 + line : 158);
            x.type(0, 'b', 0, 0, 0, 0);
            Check.is("the next line", x.keys(0, false), 1);
        }
    }

    /** "an end is read as the end of a file, once. A thread that reads when there is none waits ('k')". */
    private static void reading() {
        x = new KernelWorks();
        Check.program(x, 0, 52, 1, 0, 2, 52, 3, 0, 4, 52, 5, 0, 6, 43, 0, 0, 0);
        x.login(0, 0);
        Check.type(x, 0, "0\n");
        x.step(6);
        Check.text("none", Check.waits(x, 0, 1), "k0");
        Check.type(x, 0, "ab");
        x.step(2);
        Check.text("none that can be read", Check.waits(x, 0, 1), "k0");
        Check.type(x, 0, "\u0004");
        x.step(5);
        Check.is("the first", x.register(0, 1, 1), 'a');
        Check.is("the second", x.register(0, 1, 3), 'b');
        Check.text("no 10", Check.waits(x, 0, 1), "k0");
        Check.type(x, 0, "\u0004c\n");
        x.step(5);
        Check.is("an end", x.register(0, 1, 5) * 10 + x.register(0, 1, 6), 0);
        Check.is("what is behind it can be read", x.keys(0, true), 2);
    }

    /** "What is written to a terminal is shown": R(a) is 1, whatever is written. */
    private static void writing() {
        x = new KernelWorks();
        Check.program(x, 0, 53, 1, 1, 65, 53, 2, 0, -1, 53, 3, 1, Integer.MAX_VALUE, 43, 0, 0, 0);
        x.login(0, 0);
        Check.type(x, 0, "0\n");
        x.step(9);
        for (int r = 1; r <= 3; r++) {
            Check.is("R(a)", x.register(0, 1, r), 1);
        }
        Check.is("shown", x.shown(0, 0), 65);
        Check.is("by the file 0, too", x.shown(0, 1), -1);
        Check.is("any number", x.shown(0, 2), Integer.MAX_VALUE);
        Check.fails("that is all", Check.NONE, () -> x.shown(0, 3));
        Check.is("no cell of a file", x.account(0, 0, 'w'), 0);
    }

    /** "3 .. sends the signal 2 to all processes, by their numbers, that the shell .. runs in front; 26 .. the signal 9". */
    private static void signals() {
        x = new KernelWorks();
        Check.program(x, 0, 33, 99, 0, 0);
        Check.type(x, 0, "\u0003\u001a");
        Check.is("without a shell nothing", x.events(), 0);
        x.login(0, 0);
        Check.type(x, 0, "0&\n0|0\n");
        x.step(12);
        int from = x.events();
        Check.type(x, 0, "\u001a");
        Check.text("of those in front", Check.events(x, from), "s309 s409");
        x.step(2);
        Check.is("nothing is in front", x.job(0, 1, 0), 0);
        Check.type(x, 0, "\u0003\u001a");
        Check.text("nobody", Check.events(x, from), "s309 s409");
        Check.type(x, 0, "fg 2\n");
        x.step(4);
        from = x.events();
        Check.type(x, 0, "\u0003");
        Check.text("both, by their numbers", Check.events(x, from), "s302 e3130 s402 e4130");
    }

    /** "the last 200 cells of it are told." */
    private static void shownCells() {
        // As many cells as the program is told to show: 199, 200 and 201.
        for (int many : new int[] {199, 200, 201}) {
            x = new KernelWorks();
            Check.program(x, 0, 12, 4, 1, 0, 6, 3, 1002, 1004, 9, 1003, 4, 0, 22, 0, 0, 0, 53, 1, 1, 1002, 2, 2, 1002, 1,
                8, 1, 0, 0);
            x.login(0, 0);
            Check.type(x, 0, "0 " + many + "\n");
            for (int i = 0; i < 4; i++) {
                x.step(300);
            }
            Check.is("the oldest of " + many, x.shown(0, 0), Math.max(0, many - 200));
            Check.is("the latest of " + many, x.shown(0, Math.min(many, 200) - 1), many - 1);
            int told = Math.min(many, 200);
            Check.fails("no more of " + many, Check.NONE, () -> x.shown(0, told));
            Check.fails("below 0", Check.NONE, () -> x.shown(0, -1));
        }
    }

    /** "71 V(b) comes to the job ..: R(a) is 0; 0 ends the job (nothing happens if it has none); .. at most 40 .. -27." */
    private static void jobs() {
        x = Check.driven(0);
        row("0 without a job", 0, 71, 0, 0);
        x.step(9);
        Check.fails("nothing", Check.NONE, () -> x.printed(0, 0));
        for (int i = 1; i <= 42; i++) {
            row("cell " + i, i <= 40 ? 0 : -27, 71, i, 0);
        }
        row("any number", -27, 71, Integer.MIN_VALUE, 0);
        row("0 ends it", 0, 71, 0, 0);
        row("the next job", 0, 71, 99, 0);
        x.step(100);
        Check.is("the last of 40", x.printed(0, 39), 40);
        Check.fails("no more", Check.NONE, () -> x.printed(0, 40));
        x.does(0, 0, 22, 0, 0, 0);
        x.step(2);
        Check.is("what it printed is a job", x.printed(0, 40), 99);
    }

    /** "In (e), if T is even, the first of these prints one cell, and is gone with its last one". */
    private static void printing() {
        x = Check.driven(0, 0);
        x.does(0, 0, 71, 1, 11, 0);
        x.does(0, 1, 71, 1, 21, 0);
        x.does(0, 0, 71, 1, 12, 0);
        x.does(0, 1, 71, 1, 0, 0);
        Check.is("ended at 4, behind (e)", x.time(), 4);
        Check.fails("not at 4", Check.NONE, () -> x.printed(0, 0));
        x.does(0, 0, 71, 1, 0, 0);
        Check.fails("not at 5", Check.NONE, () -> x.printed(0, 0));
        x.step(1);
        Check.is("at 6", x.printed(0, 0), 21);
        x.step(1);
        Check.fails("not at 7", Check.NONE, () -> x.printed(0, 1));
        x.step(1);
        Check.is("at 8", x.printed(0, 1), 11);
        x.step(2);
        Check.is("at 10", x.printed(0, 2), 12);
        x.step(4);
        Check.fails("that is all", Check.NONE, () -> x.printed(0, 3));
    }

    /** "the last 200 printed are told." */
    private static void printedCells() {
        for (int many : new int[] {199, 200, 201}) {
            x = new KernelWorks();
            Check.program(x, 0, 2, 2, 1002, 1, 71, 1, 1002, 0, 71, 1, 0, 0, 6, 3, 1002, many, 9, 1003, 0, 0);
            x.spawn(0, 0, 0);
            for (int i = 0; i < 4; i++) {
                x.step(300);
            }
            Check.is("the oldest of " + many, x.printed(0, 0), Math.max(1, many - 199));
            Check.is("the latest of " + many, x.printed(0, Math.min(many, 200) - 1), many);
            int told = Math.min(many, 200);
            Check.fails("no more of " + many, Check.NONE, () -> x.printed(0, told));
            Check.fails("below 0", Check.NONE, () -> x.printed(0, -1));
        }
    }

    public static void main(String[] args) {
        distances();
        order();
        askedOnce();
        keysOfALine();
        bytes();
        ends();
        reading();
        writing();
        signals();
        shownCells();
        jobs();
        printing();
        printedCells();
        Check.end("BoundsDevicesTest");
    }
}
