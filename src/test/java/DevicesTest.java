/** Promises 21 and 22, with part 7 of the terms: the disc, the terminal, the printer. */
public final class DevicesTest {
    private static void arm() {
        KernelWorks x = new KernelWorks();
        x.spawn(0, 0, -1);
        Check.is("nothing begun", x.disc(0, 'b'), -1);
        Check.is("nothing begun", x.disc(0, 'l'), 0);
        x.does(0, 0, 50, 0, 1, 7);
        x.tell(0, 0, 64, 0, 0, 0);
        x.step(1);
        // The blocks 2 to 5 of the log are asked: 2 ticks each, and one tick to begin.
        Check.is("asked", x.disc(0, 'q'), 4);
        int[][] due = {{2, 2, 3}, {2, 1, 3}, {-1, 0, 3}, {3, 2, 2}, {3, 1, 2}, {-1, 0, 2}, {4, 2, 1}, {4, 1, 1},
            {-1, 0, 1}, {5, 2, 0}, {5, 1, 0}, {-1, 0, 1}, {1, 2, 0}, {1, 1, 0}, {-1, 0, 4}, {10, 2, 3}};
        for (int[] d : due) {
            x.step(1);
            Check.is("block", x.disc(0, 'b'), d[0]);
            Check.is("left", x.disc(0, 'l'), d[1]);
            Check.is("asked", x.disc(0, 'q'), d[2]);
        }
        Check.is("arm", x.disc(0, 'a'), 10);
        // The arm is at 10: of 0, 11 and 30 the least that is not less is 11, then 30, then 0.
        x.step(3);
        Check.is("block", x.disc(0, 'b'), 11);
        x.step(3);
        Check.is("block", x.disc(0, 'b'), 30);
        Check.is("left", x.disc(0, 'l'), 3);
        x.step(4);
        Check.is("block", x.disc(0, 'b'), 0);
        Check.is("left", x.disc(0, 'l'), 5);
        Check.fails("disc", Check.ARGUMENT, () -> x.disc(0, 'x'));
        Check.fails("disc", Check.ARGUMENT, () -> x.disc(3, 'a'));
        x.crash(0);
        Check.fails("disc", Check.UNSUPPORTED, () -> x.disc(0, 'a'));
        x.boot(0);
        Check.is("arm behind a start", x.disc(0, 'a'), 0);
    }

    private static void keys() {
        KernelWorks x = new KernelWorks();
        Check.is("typed", Check.type(x, 0, "abc\b\bx"), 0);
        Check.is("line", x.keys(0, false), 2);
        Check.type(x, 0, "\u0015\b");
        Check.is("line", x.keys(0, false), 0);
        Check.type(x, 0, "0123456789012345678901234567890123456789X");
        Check.is("40 at most", x.keys(0, false), 40);
        Check.is("ended", Check.type(x, 0, "\n"), 41);
        Check.is("an end", Check.type(x, 0, "\u0004"), 42);
        Check.is("without a 10", Check.type(x, 0, "ab\u0004"), 44);
        Check.type(x, 0, "abc\u0003");
        Check.is("3 takes the line away", x.keys(0, false), 0);
        Check.type(x, 0, "abc\u001a\u0001\u007f");
        Check.is("26 leaves the line", x.keys(0, false), 3);
        Check.type(x, 0, "\u0015");
        for (int i = 0; i < 3; i++) {
            Check.type(x, 0, "012345678901234567890123456789012345678\n");
        }
        Check.is("more than 160 are gone", x.keys(0, true), 44 + 80);
        Check.is("160", Check.type(x, 0, "01234567890123456789012345678901234\n"), 160);
        Check.is("an end more", Check.type(x, 0, "\u0004"), 160);
        Check.is("a line more", Check.type(x, 0, "\n"), 160);
        Check.fails("keys", Check.ARGUMENT, () -> x.keys(3, true));
        x.crash(0);
        Check.fails("keys", Check.UNSUPPORTED, () -> x.keys(0, true));
        x.boot(0);
        Check.is("keys behind a start", x.keys(0, true), 0);
    }

    private static void reading() {
        // A program that reads the terminal: the shell starts it, and its cells come one by one; an end once.
        KernelWorks x = new KernelWorks();
        Check.program(x, 0, 52, 1, 0, 2, 53, 3, 1, 1001, 52, 4, 0, 5, 53, 3, 1, 1002, 54, 6, 0, 0, 43, 0, 0, 0);
        x.login(0, 0);
        Check.type(x, 0, "0\n");
        x.step(6);
        Check.is("waits for keys", x.waits(0, 1, 's'), 'k');
        Check.is("waits for keys", x.waits(0, 1, 'n'), 0);
        Check.type(x, 0, "A");
        x.step(1);
        Check.is("not yet", x.waits(0, 1, 's'), 'k');
        Check.type(x, 0, "\u0004\u0004");
        x.step(9);
        Check.is("key", x.register(0, 1, 1), 'A');
        Check.is("told", x.register(0, 1, 2), 1);
        Check.is("end", x.register(0, 1, 4), 0);
        Check.is("end", x.register(0, 1, 5), 0);
        Check.is("54 of a terminal", x.register(0, 1, 6), -29);
        Check.is("the end is read once", x.keys(0, true), 0);
        Check.text("shown", Check.shown(x, 0), "A\u0001");
        Check.fails("shown", Check.NONE, () -> x.shown(0, 2));
        Check.fails("shown", Check.NONE, () -> x.shown(0, -1));
        Check.fails("shown", Check.ARGUMENT, () -> x.shown(3, 0));
        // 3 sends the signal 2 to what is in front.
        Check.type(x, 0, "\u0003");
        Check.text("events", Check.events(x, 2), "s202 e2130");
        x.crash(0);
        Check.text("shown stays", Check.shown(x, 0), "A\u0001");
        // The last 200 cells are told.
        KernelWorks y = new KernelWorks();
        Check.program(y, 0, 53, 1, 1, 1002, 2, 2, 1002, 1, 8, 0, 0, 0);
        y.login(0, 0);
        Check.type(y, 0, "0\n");
        y.step(400);
        y.step(400);
        Check.is("oldest", y.shown(0, 199) - y.shown(0, 0), 199);
        Check.fails("shown", Check.NONE, () -> y.shown(0, 200));
    }

    private static void printer() {
        KernelWorks x = new KernelWorks();
        x.spawn(0, 0, -1);
        x.spawn(0, 0, -1);
        Check.is("71", x.does(0, 0, 71, 1, 0, 0), 0);
        Check.is("71", x.does(0, 0, 71, 1, 65, 0), 0);
        Check.is("71", x.does(0, 1, 71, 1, 70, 0), 0);
        Check.is("71", x.does(0, 0, 71, 1, 66, 0), 0);
        x.step(4);
        Check.fails("not ended", Check.NONE, () -> x.printed(0, 0));
        Check.is("ends at 9", x.does(0, 0, 71, 1, 0, 0), 0);
        Check.is("22", x.does(0, 1, 22, 0, 0, 0), -1001);
        Check.is("at 10", x.printed(0, 0), 65);
        Check.fails("printed", Check.NONE, () -> x.printed(0, 1));
        x.step(2);
        Check.is("at 12", x.printed(0, 1), 66);
        x.step(1);
        Check.fails("printed", Check.NONE, () -> x.printed(0, 2));
        x.step(1);
        Check.is("what a process that ended printed", x.printed(0, 2), 70);
        for (int i = 0; i < 40; i++) {
            Check.is("71", x.does(0, 0, 71, 1, 1 + i, 0), 0);
        }
        Check.is("41", x.does(0, 0, 71, 1, 5, 0), -27);
        Check.is("71", x.does(0, 0, 71, 1, 0, 0), 0);
        x.step(90);
        Check.is("printed", x.printed(0, 42), 40);
        Check.fails("printed", Check.NONE, () -> x.printed(0, 43));
        Check.fails("printed", Check.NONE, () -> x.printed(0, -1));
        Check.fails("printed", Check.ARGUMENT, () -> x.printed(3, 0));
        x.crash(0);
        Check.is("printed stays", x.printed(0, 42), 40);
    }

    public static void main(String[] args) {
        arm();
        keys();
        reading();
        printer();
        Check.end("DevicesTest");
    }
}
