/** Promises 15 to 20, with parts 5 and 6 of the terms: files, the log, faults. */
public final class FilesTest {
    private static KernelWorks x;

    private static void row(String what, int due, int op, int b, int c) {
        Check.is(what, slow(op, b, c), due);
    }

    /** The answer of a row, also if it has to wait for the disc for long. */
    private static int slow(int op, int b, int c) {
        int answer = x.does(0, 0, op, 1, b, c);
        for (int i = 0; i < 40 && answer == -1000; i++) {
            x.step(10);
            answer = x.thread(0, 0, 's') == 1 && x.waits(0, 0, 's') == 'h' ? x.register(0, 0, 1) : -1000;
        }
        return answer;
    }

    private static void start() {
        x = new KernelWorks();
        x.spawn(0, 0, -1);
    }

    private static int path(int... names) {
        int path = 0;
        for (int n : names) {
            path = path * 27 + n;
        }
        return path;
    }

    private static void opening() {
        start();
        row("no flags", -22, 50, 1, 0);
        row("too many flags", -22, 50, 1, 64);
        row("all flags", 0, 50, 1, 63);
        row("51", 0, 51, 0, 0);
        row("56", 0, 56, 1, 0);
        x.step(60);
        start();
        row("neither 1 nor 2", -22, 50, 1, 4);
        row("digit 0", -22, 50, 27, 7);
        row("least", -22, 50, Integer.MIN_VALUE, 7);
        row("missing", -2, 50, 1, 3);
        row("the root", -21, 50, 0, 3);
        row("made", 0, 50, 1, 7);
        Check.is("open blocks", x.log(0, 'o'), 4);
        Check.is("given", x.log(0, 'n'), 1);
        Check.is("safe", x.log(0, 's'), 0);
        Check.is("free", x.log(0, 'p'), 0);
        Check.is("find", x.find(0, 1), 1);
        int[] file = {1, 420, 0, 1, 0, 0, 0, 0};
        int[] root = {2, 493, 0, 1, 1, 30, 0, 0};
        for (int c = 0; c < 8; c++) {
            Check.is("inode 1", x.inode(0, 1, c), file[c]);
            Check.is("inode 0", x.inode(0, 0, c), root[c]);
            Check.is("not on the disc yet", x.block(0, 11, c), 0);
        }
        Check.is("entry", x.content(0, 0, 0), 101);
        row("below a file", -20, 50, path(1, 1), 7);
        row("with 4 and 32", -17, 50, 1, 39);
        row("with 32 alone", 1, 50, 1, 35);
        row("no file", 0, 52, 9, 2);
        Check.is("why", x.register(0, 0, 2), -9);
        row("write", 1, 53, 0, 65);
        row("write", 1, 53, 0, 66);
        Check.is("account w", x.account(0, 0, 'w'), 2);
        Check.is("size", x.inode(0, 1, 4), 2);
        Check.is("block", x.inode(0, 1, 5), 31);
        Check.is("content", x.content(0, 1, 1), 66);
        Check.is("held", x.held(0, 31), true);
        Check.is("no block of a file", x.held(0, 30), false);
        row("read at the end", 0, 52, 0, 2);
        Check.is("why", x.register(0, 0, 2), 0);
        row("54", 0, 54, 0, 0);
        row("read", 65, 52, 0, 2);
        Check.is("R(c)", x.register(0, 0, 2), 1);
        row("54", -22, 54, 0, 81);
        row("54", -22, 54, 0, -1);
        row("54", -9, 54, 5, -1);
        row("54", 0, 54, 0, 80);
        row("beyond 79", -27, 53, 0, 1);
        row("read only", 2, 50, 1, 1);
        row("read only", -1, 53, 2, 1);
        row("write only", 3, 50, 1, 2);
        row("write only", 0, 52, 3, 2);
        Check.is("why", x.register(0, 0, 2), -1);
        row("at the end", 4, 50, 1, 19);
        row("at the end", 1, 53, 4, 67);
        Check.is("content", x.content(0, 1, 2), 67);
        row("last number", 5, 50, 1, 1);
        row("no number", -24, 50, 1, 1);
        row("51", 0, 51, 2, 0);
        row("51", -9, 51, 2, 0);
        row("51", -9, 51, 6, 0);
        row("cut without 2", 2, 50, 1, 9);
        Check.is("size", x.inode(0, 1, 4), 3);
        row("51", 0, 51, 2, 0);
        row("cut", 2, 50, 1, 10);
        Check.is("size", x.inode(0, 1, 4), 0);
        Check.is("block", x.inode(0, 1, 5), 0);
        row("67", -9, 67, 9, 9);
        row("67", -22, 67, 0, 6);
        row("67", 3, 67, 0, 3);
        row("67", 0, 67, 0, 0);
        row("write", -27, 53, 3, 5);
        row("the same position", 0, 54, 3, 1);
        row("write", 1, 53, 0, 5);
        row("size", 2, 60, 1, 5);
        row("60", 1, 60, 1, 0);
        row("60", 1, 60, 1, 1);
        row("60", 420, 60, 1, 2);
        row("60", 1, 60, 1, 4);
        row("60", 1, 60, 1, 6);
        row("60", -22, 60, 1, 7);
        row("60", -22, 60, 2, -1);
        row("60", -2, 60, 2, 0);
    }

    private static void logging() {
        start();
        row("open", 0, 50, 1, 7);
        row("write", 1, 53, 0, 65);
        row("64", 0, 64, 0, 0);
        Check.is("safe", x.log(0, 's'), 1);
        Check.is("phase", x.log(0, 'p'), 3);
        Check.is("record", x.block(0, 1, 0), 1);
        Check.is("record", x.block(0, 1, 1), 5);
        Check.is("record", x.block(0, 1, 2), 10);
        Check.is("record", x.block(0, 1, 3), 1130);
        Check.is("record", x.block(0, 1, 4), 3199);
        Check.is("record", x.block(0, 1, 5), 0);
        Check.is("log", x.block(0, 2, 0), 3);
        Check.is("log", x.block(0, 6, 0), 65);
        Check.is("not installed", x.block(0, 31, 0), 0);
        Check.text("events", Check.events(x, 0), "p1 c1 d1");
        row("64 with nothing", 0, 64, 0, 0);
        row("read in the meantime", 0, 54, 0, 0);
        row("a change waits", 1, 53, 0, 70);
        Check.is("free", x.log(0, 'p'), 0);
        Check.is("installed", x.block(0, 31, 0), 65);
        Check.is("map", x.block(0, 0, 3), 202);
        Check.is("map", x.block(0, 0, 0), 3);
        Check.is("record anew", x.block(0, 1, 0), 1);
        Check.is("record anew", x.block(0, 1, 1), 0);
        Check.text("events", Check.events(x, 3), "i1");
        Check.is("given", x.log(0, 'n'), 2);
        // A cell that becomes what it was is no change.
        start();
        row("open", 0, 50, 1, 7);
        x.step(100);
        row("61", 0, 61, 1, 420);
        Check.is("no change", x.log(0, 'o'), 0);
        row("61", 0, 61, 1, 421);
        Check.is("a change", x.log(0, 'o'), 1);
        Check.is("given", x.log(0, 'n'), 2);
        // Every 16 ticks it closes; with more than 8 blocks it closes, too.
        start();
        for (int n = 1; n <= 5; n++) {
            row("open", n - 1, 50, n, 7);
        }
        Check.is("8 blocks", x.log(0, 'o'), 8);
        x.tell(0, 0, 50, 1, 6, 7);
        x.step(1);
        Check.is("closed", x.log(0, 'p'), 1);
        Check.is("time", x.time(), 6);
        Check.is("waits", x.waits(0, 0, 's'), 'g');
        Check.is("nothing is done", x.inode(0, 6, 0), 0);
        x.step(200);
        Check.is("done", x.inode(0, 6, 0), 1);
        start();
        row("open", 0, 50, 1, 7);
        x.step(14);
        Check.is("open", x.log(0, 'p'), 0);
        x.step(1);
        Check.is("closed at 16", x.log(0, 'p'), 1);
        Check.is("disc", x.disc(0, 'q'), 4);
        // A crash in the record: the log tells it at the start.
        start();
        row("open", 0, 50, 1, 7);
        row("write", 1, 53, 0, 65);
        row("64", 0, 64, 0, 0);
        Check.is("crash", x.crash(0), 0);
        Check.is("down", x.inode(0, 1, 0), 0);
        Check.is("boot", x.boot(0), 5);
        Check.is("isWhole", x.isWhole(0), true);
        Check.is("content", x.content(0, 1, 0), 65);
        Check.is("record", x.block(0, 1, 1), 0);
        Check.is("given", x.log(0, 'n'), 1);
        Check.is("safe", x.log(0, 's'), 1);
        Check.fails("log", Check.ARGUMENT, () -> x.log(0, 'x'));
        Check.fails("log", Check.ARGUMENT, () -> x.log(3, 'o'));
        x.crash(0);
        Check.fails("log", Check.UNSUPPORTED, () -> x.log(0, 'o'));
        Check.fails("held", Check.UNSUPPORTED, () -> x.held(0, 30));
        Check.fails("held", Check.ARGUMENT, () -> x.held(3, 30));
        Check.fails("held", Check.INDEX, () -> x.held(1, 29));
        Check.fails("held", Check.INDEX, () -> x.held(1, 70));
    }

    private static void directories() {
        start();
        row("55", 0, 55, 1, 0);
        row("55", -17, 55, 1, 0);
        row("55", -22, 55, 0, 0);
        row("55", -2, 55, path(2, 2), 0);
        Check.is("inode", x.inode(0, 1, 1), 493);
        row("55", 0, 55, path(1, 1), 0);
        row("open", 0, 50, path(1, 1, 2), 6);
        Check.is("find", x.find(0, path(1, 1, 2)), 3);
        row("56 with entries", -39, 56, path(1, 1), 0);
        row("56", -2, 56, path(1, 2), 0);
        row("56", -22, 56, 0, 0);
        row("63", 0, 63, path(1, 1), 0);
        Check.is("directory", x.process(0, 1, 'd'), 2);
        row("60 below 0", 3, 60, -2, 0);
        row("63 to a file", -20, 63, -2, 0);
        row("63", -2, 63, -3, 0);
        row("57", 0, 57, -2, 5);
        row("57", -17, 57, -2, 5);
        row("57 of a directory", -1, 57, 1, 6);
        Check.is("names", x.inode(0, 3, 3), 2);
        Check.is("find", x.find(0, 5), 3);
        row("56", 0, 56, -2, 0);
        Check.is("names", x.inode(0, 3, 3), 1);
        row("56", 0, 56, 5, 0);
        row("56 of the own directory", 0, 56, path(1, 1), 0);
        row("a place without a name", -2, 50, -3, 6);
        row("60 walks there, too", -2, 60, -3, 0);
        x.step(60);
        Check.is("used", x.inode(0, 2, 0), 2);
        Check.is("used", x.inode(0, 3, 0), 1);
        row("63", 0, 63, 0, 0);
        row("51", 0, 51, 0, 0);
        x.step(100);
        Check.is("given up", x.inode(0, 2, 0), 0);
        Check.is("given up", x.inode(0, 3, 0), 0);
        row("70", 101, 70, 0, 0);
        row("70", 0, 70, 0, 5);
        row("70", -22, 70, 0, -1);
        row("70", -22, 70, 9, -1);
        row("open", 0, 50, 2, 6);
        row("70", -20, 70, 2, 0);
        Check.is("isSound", x.isSound(), true);
    }

    private static void softLinks() {
        start();
        row("58", 0, 58, 1, 2);
        Check.is("kind", x.inode(0, 1, 0), 3);
        Check.is("mode", x.inode(0, 1, 1), 511);
        Check.is("leads to", x.inode(0, 1, 4), 2);
        row("not made through a link", -2, 50, 1, 7);
        row("58", -17, 58, 1, 9);
        row("open", 0, 50, 2, 7);
        row("60 follows", 2, 60, 1, 0);
        row("61 follows", 0, 61, 1, 7);
        Check.is("mode", x.inode(0, 2, 1), 7);
        row("open", 1, 50, 1, 3);
        row("55", 0, 55, 3, 0);
        row("58 relative", 0, 58, path(3, 1), -4);
        row("open", 2, 50, path(3, 4), 6);
        row("60 relative to its directory", 5, 60, path(3, 1), 0);
        row("58 to a directory", 0, 58, 4, 3);
        row("60 through it", 5, 60, path(4, 4), 0);
        row("58 to itself", 0, 58, 5, 5);
        row("the fifth", -40, 60, 5, 0);
        row("58 to the root", 0, 58, 6, 0);
        row("60", 0, 60, 6, 0);
        row("58 with a digit 0", 0, 58, 7, 27);
        row("60", -22, 60, 7, 0);
        row("56 takes the link", 0, 56, 1, 0);
        Check.is("names", x.inode(0, 2, 3), 1);
        row("57 of a link", 0, 57, 4, 8);
        Check.is("names", x.inode(0, 6, 3), 2);
        // Four links are followed.
        start();
        row("55", 0, 55, 1, 0);
        for (int n = 2; n <= 6; n++) {
            row("58", 0, 58, n, n - 1);
        }
        row("four", 1, 60, 5, 0);
        row("five", -40, 60, 6, 0);
        Check.fails("find", Check.NONE, () -> x.find(0, 6));
        Check.fails("find", Check.NONE, () -> x.find(0, 9));
        Check.fails("find", Check.NONE, () -> x.find(0, 27));
        Check.fails("find", Check.ARGUMENT, () -> x.find(0, -1));
        Check.fails("find", Check.ARGUMENT, () -> x.find(3, 0));
        Check.is("find", x.find(0, 0), 0);
    }

    private static void renames() {
        start();
        row("55", 0, 55, 1, 0);
        row("55", 0, 55, path(1, 2), 0);
        row("open", 0, 50, path(1, 3), 6);
        row("59 without an entry", -2, 59, 9, 1);
        row("59 into itself", -22, 59, 1, path(1, 5));
        row("59 below itself", -22, 59, 1, path(1, 2, 5));
        row("59", 0, 59, path(1, 3), 4);
        Check.is("find", x.find(0, 4), 3);
        Check.fails("find", Check.NONE, () -> x.find(0, path(1, 3)));
        row("59 of a file over a directory", -21, 59, 4, 1);
        row("59 of a directory over a file", -20, 59, 1, 4);
        row("59", -2, 59, path(1, 2), path(3, 3));
        row("55", 0, 55, 5, 0);
        row("59 over one with entries", -39, 59, 5, 1);
        row("59 over an empty one", 0, 59, 1, 5);
        Check.is("find", x.find(0, path(5, 2)), 2);
        row("57", 0, 57, 4, 6);
        row("59 over the same inode", 0, 59, 4, 6);
        Check.is("find", x.find(0, 4), 3);
        Check.is("names", x.inode(0, 3, 3), 2);
        row("open", 1, 50, 7, 6);
        row("59 over a file", 0, 59, 7, 4);
        Check.is("names", x.inode(0, 3, 3), 1);
        Check.is("first free cell", x.content(0, 0, 0), 306);
        Check.is("in place", x.content(0, 0, 2), 105);
        Check.is("isSound", x.isSound(), true);
    }

    private static void rights() {
        start();
        for (int u = 1; u < 5; u++) {
            x.spawn(0, u, -1);
        }
        Check.is("not in the root", x.does(0, 1, 50, 1, 1, 7), -1);
        Check.is("not in the root", x.does(0, 1, 55, 1, 1, 0), -1);
        row("61", 0, 61, 0, 511);
        Check.is("61", x.does(0, 1, 61, 1, 0, 511), -1);
        Check.is("61", x.does(0, 1, 61, 1, 0, 512), -22);
        Check.is("50", x.does(0, 1, 50, 1, 1, 7), 0);
        Check.is("owner and group", x.inode(0, 1, 2), 11);
        Check.is("the group reads", x.does(0, 4, 50, 1, 1, 1), 0);
        Check.is("the group does not write", x.does(0, 4, 50, 1, 1, 2), -1);
        Check.is("61", x.does(0, 1, 61, 1, 1, 0600 + 060), 0);
        Check.is("the group writes", x.does(0, 4, 50, 1, 1, 2), 1);
        Check.is("others do not read", x.does(0, 2, 50, 1, 1, 1), -1);
        x.user(2, 2, 1, 40, 20);
        Check.is("by the bits of groups", x.does(0, 2, 50, 1, 1, 3), 0);
        Check.is("61", x.does(0, 1, 61, 1, 1, 077), 0);
        Check.is("the owner is the owner", x.does(0, 1, 50, 1, 1, 1), -1);
        Check.is("others", x.does(0, 3, 50, 1, 1, 3), 0);
        Check.is("62", x.does(0, 1, 62, 1, 1, 22), -1);
        Check.is("62", x.does(0, 1, 62, 1, 1, 50), -22);
        Check.is("62", x.does(0, 1, 62, 1, 1, 13), -22);
        Check.is("62", x.does(0, 1, 62, 1, 1, -1), -22);
        Check.is("53", x.does(0, 3, 53, 1, 0, 1), 1);
        Check.is("map", x.inode(0, 0, 0), 2);
        row("62", 0, 62, 1, 42);
        Check.is("owner", x.inode(0, 1, 2), 42);
        row("64", 0, 64, 0, 0);
        x.step(60);
        Check.is("of user 1", x.block(0, 0, 4), 0);
        Check.is("of user 4", x.block(0, 0, 7), 101);
        Check.is("of user 0", x.block(0, 0, 3), 101);
        // Directories: to go through, to read.
        Check.is("55", x.does(0, 1, 55, 1, 2, 0), 0);
        Check.is("61", x.does(0, 1, 61, 1, 2, 0644), 0);
        Check.is("look", x.does(0, 2, 60, 1, path(2, 1), 0), -1);
        Check.is("63", x.does(0, 2, 63, 1, 2, 0), -1);
        Check.is("70", x.does(0, 2, 70, 1, 2, 0), 0);
        Check.is("61", x.does(0, 1, 61, 1, 2, 0711), 0);
        Check.is("look", x.does(0, 2, 60, 1, path(2, 1), 0), -2);
        Check.is("63", x.does(0, 2, 63, 1, 2, 0), 0);
        Check.is("70", x.does(0, 2, 70, 1, 2, 0), -1);
        Check.is("65", x.does(0, 2, 65, 1, 2, 5), -21);
        Check.is("65", x.does(0, 2, 65, 1, 9, 81), -22);
        // Quotas.
        x.user(3, 0, 1, 1, 1);
        Check.is("the first inode", x.does(0, 3, 50, 1, 5, 7), 1);
        Check.is("over the quota", x.does(0, 3, 50, 1, 6, 7), -69);
        Check.is("the first block", x.does(0, 3, 53, 1, 1, 1), 1);
        Check.is("54", x.does(0, 3, 54, 1, 1, 8), 0);
        Check.is("over the quota", x.does(0, 3, 53, 1, 1, 1), -69);
        Check.is("58 over the quota", x.does(0, 3, 58, 1, 6, 1), -69);
        Check.is("isSound", x.isSound(), true);
    }

    private static void blocks() {
        start();
        row("open", 0, 50, 1, 7);
        row("54", 0, 54, 0, 79);
        row("write", 1, 53, 0, 9);
        Check.is("numbers ahead", x.inode(0, 1, 7), 31);
        row("blocks", 2, 60, 1, 6);
        for (int b = 0; b < 9; b++) {
            row("54", 0, 54, 0, 8 * b);
            row("write", 1, 53, 0, b);
        }
        row("blocks", 11, 60, 1, 6);
        x.step(100);
        int held = 0;
        for (int b = 30; b < 70; b++) {
            held += x.held(0, b) ? 1 : 0;
        }
        Check.is("8 are held", held, 8);
        Check.is("the oldest are not", x.held(0, 32), false);
        long reads = x.account(0, 0, 'r');
        row("54", 0, 54, 0, 79);
        x.tell(0, 0, 52, 1, 0, 2);
        x.step(1);
        Check.is("waits", x.waits(0, 0, 's'), 'b');
        Check.is("waits", x.waits(0, 0, 'n'), 32);
        x.step(20);
        Check.is("read", x.register(0, 0, 1), 9);
        Check.is("held", x.held(0, 32), true);
        Check.is("account r", x.account(0, 0, 'r'), reads + 1);
        row("65", -22, 65, 1, 81);
        row("65", 0, 65, 1, 17);
        row("blocks", 4, 60, 1, 6);
        Check.fails("content", Check.NONE, () -> x.content(0, 1, 17));
        Check.is("content", x.content(0, 1, 16), 2);
        row("65", 0, 65, 1, 80);
        Check.is("0 behind", x.content(0, 1, 79), 0);
        row("65", 0, 65, 1, 16);
        row("blocks", 2, 60, 1, 6);
        row("65", 0, 65, 1, 4);
        row("65", 0, 65, 1, 0);
        row("blocks", 0, 60, 1, 6);
        Check.is("last inode", x.inode(0, 19, 7), 0);
        Check.is("last block", x.block(0, 81, 7), 0);
        Check.fails("content", Check.ARGUMENT, () -> x.content(3, 1, 0));
        Check.fails("content", Check.INDEX, () -> x.content(0, 20, 0));
        Check.fails("content", Check.UNSUPPORTED, () -> x.content(0, 5, 0));
        Check.fails("content", Check.NONE, () -> x.content(0, 1, -1));
        Check.fails("inode", Check.ARGUMENT, () -> x.inode(3, 0, 0));
        Check.fails("inode", Check.INDEX, () -> x.inode(0, 20, 0));
        Check.fails("inode", Check.INDEX, () -> x.inode(0, 0, 8));
        Check.fails("block", Check.ARGUMENT, () -> x.block(3, 0, 0));
        Check.fails("block", Check.INDEX, () -> x.block(0, 82, 0));
        Check.fails("block", Check.INDEX, () -> x.block(0, 0, -1));
    }

    private static void fullDisc() {
        start();
        for (int n = 1; n <= 19; n++) {
            row("open", 0, 50, n, 7);
            row("51", 0, 51, 0, 0);
        }
        row("no inode", -28, 50, 20, 7);
        int block = 0;
        for (int n = 1; n <= 5 && block < 40; n++) {
            row("open", 0, 50, n, 7);
            for (int b = 0; b < 10; b++) {
                row("54", 0, 54, 0, 8 * b);
                if (slow(53, 0, 1) != 1) {
                    break;
                }
            }
            row("51", 0, 51, 0, 0);
        }
        row("open", 0, 50, 6, 7);
        row("no block", -28, 53, 0, 1);
        Check.is("isSound", x.isSound(), true);
    }

    private static void pipes() {
        start();
        row("66", 1, 66, 0, 0);
        row("write end", 0, 52, 1, 2);
        Check.is("why", x.register(0, 0, 2), -1);
        row("read end", -1, 53, 0, 2);
        row("54", -29, 54, 0, 0);
        for (int i = 0; i < 6; i++) {
            row("53", 1, 53, 1, 10 + i);
        }
        row("20", 2, 20, 0, 0);
        x.tell(0, 0, 53, 1, 1, 16);
        x.step(1);
        Check.is("full", x.waits(0, 0, 's'), 'p');
        Check.is("number", x.waits(0, 0, 'n'), 0);
        Check.is("52", x.does(0, 1, 52, 1, 0, 2), 10);
        x.step(1);
        for (int i = 1; i < 7; i++) {
            Check.is("52", x.does(0, 1, 52, 1, 0, 2), 10 + i);
        }
        x.tell(0, 1, 52, 1, 0, 2);
        x.step(1);
        Check.is("empty", x.waits(0, 1, 's'), 'p');
        row("51", 0, 51, 1, 0);
        x.step(1);
        Check.is("the other can still write", x.waits(0, 1, 's'), 'p');
        Check.is("27", x.does(0, 0, 27, 1, 2, 3), 0);
        row("66", 12, 66, 0, 0);
        row("66", 34, 66, 0, 0);
        row("66", -24, 66, 0, 0);
        row("52 at the end", 0, 52, 0, 2);
        Check.is("why", x.register(0, 0, 2), 0);
        row("51", 0, 51, 1, 0);
        row("29", 0, 29, 1 << 6, 0);
        row("nobody can read", -32, 53, 2, 1);
        Check.is("pending", x.process(0, 1, 'w'), 1 << 6);
        Check.text("event", Check.events(x, x.events() - 1), "s106");
        // Six pipes, of 12 open files.
        start();
        x.spawn(0, 0, -1);
        x.spawn(0, 0, -1);
        for (int i = 0; i < 6; i++) {
            Check.is("66", x.does(0, i / 3, 66, 1, 0, 0), i % 3 == 0 ? 1 : i % 3 == 1 ? 23 : 45);
        }
        Check.is("66", x.does(0, 2, 66, 1, 0, 0), -23);
    }

    private static void mending() {
        start();
        row("open", 0, 50, 1, 7);
        row("write", 1, 53, 0, 65);
        row("55", 0, 55, 2, 0);
        row("64", 0, 64, 0, 0);
        x.step(60);
        Check.fails("spoil", Check.UNSUPPORTED, () -> x.spoil(0, 0, 0, 0));
        Check.fails("mend", Check.UNSUPPORTED, () -> x.mend(0));
        x.crash(0);
        Check.is("spoil", x.spoil(0, 69, 7, 1), 0);
        Check.is("spoil", x.spoil(0, 69, 7, 0), 1);
        Check.fails("spoil", Check.ARGUMENT, () -> x.spoil(3, 0, 0, 0));
        Check.fails("spoil", Check.INDEX, () -> x.spoil(0, 70, 0, 0));
        Check.fails("spoil", Check.INDEX, () -> x.spoil(0, 0, 8, 0));
        Check.fails("mend", Check.ARGUMENT, () -> x.mend(3));
        Check.fails("faults", Check.ARGUMENT, () -> x.faults(3));
        Check.fails("fault", Check.ARGUMENT, () -> x.fault(3, 0, false));
        Check.fails("fault", Check.NONE, () -> x.fault(0, 0, false));
        Check.fails("isWhole", Check.ARGUMENT, () -> x.isWhole(3));
        Check.is("mend", x.mend(0), 0);
        // An inode of no kind: its entry is bad, what it had is not told by the map.
        Check.is("spoil", x.spoil(0, 11, 0, 7), 1);
        Check.text("faults", faultText(), "k1 e0 m0 m2 m3");
        Check.is("mend", x.mend(0), 5);
        Check.text("faults", faultText(), "");
        Check.fails("find", Check.NONE, () -> x.find(0, 1));
        Check.is("names", x.inode(0, 1, 1), 0);
        // A bad number, and one that was met before.
        Check.is("spoil", x.spoil(0, 12, 5, 29), 0);
        Check.is("spoil", x.spoil(0, 12, 6, 30), 0);
        Check.text("faults", faultText().substring(0, 5), "p2 d2");
        x.mend(0);
        Check.is("cell", x.inode(0, 2, 5), 0);
        Check.is("cell", x.inode(0, 2, 6), 0);
        // The root becomes as at first; what was in it is gone.
        Check.is("spoil", x.spoil(0, 10, 0, 1), 2);
        Check.text("faults", faultText(), "k0");
        x.mend(0);
        int[] root = {2, 493, 0, 1, 0, 0, 0, 0};
        int[] map = {0, 0, 1, 100, 0, 0, 0, 0};
        for (int c = 0; c < 8; c++) {
            Check.is("root", x.inode(0, 0, c), root[c]);
            Check.is("map", x.block(0, 0, c), map[c]);
            Check.is("inode 2", x.inode(0, 2, c), 0);
        }
        Check.is("boot", x.boot(0), 0);
        Check.is("not as behind the start before", x.isWhole(0), false);
        x.crash(0);
        x.boot(0);
        Check.is("isWhole", x.isWhole(0), true);
        // The start mends, too.
        x.crash(0);
        x.spoil(0, 10, 3, 9);
        x.spoil(0, 0, 2, 5);
        Check.text("faults", faultText(), "m2");
        x.boot(0);
        Check.text("faults", faultText(), "");
        Check.is("names of the root are no fault", x.inode(0, 0, 3), 9);
        x.crash(0);
        x.spoil(0, 10, 3, 1);
        x.boot(0);
        // A record that tells of blocks that there are not is none; a number below 0 counts as 0.
        x.crash(0);
        x.spoil(0, 1, 0, -5);
        x.spoil(0, 1, 1, 2);
        x.spoil(0, 1, 2, 1009);
        Check.is("boot", x.boot(0), 0);
        Check.is("given", x.log(0, 'n'), 0);
        x.crash(0);
        x.spoil(0, 1, 2, 1139);
        x.spoil(0, 3, 2, 77);
        Check.is("boot", x.boot(0), 2);
        Check.is("cell", x.block(0, 39, 2), 77);
        Check.is("record", x.block(0, 1, 1), 0);
        Check.is("record", x.block(0, 1, 0), -5);
        x.crash(0);
        x.spoil(0, 1, 1, 3);
        x.spoil(0, 1, 2, 1139);
        x.spoil(0, 1, 3, -1);
        Check.is("boot", x.boot(0), 0);
        x.crash(0);
        x.spoil(0, 1, 1, 9);
        x.spoil(0, 1, 0, 1000000);
        Check.is("boot", x.boot(0), 0);
        Check.is("given", x.log(0, 'n'), 0);
    }

    private static String faultText() {
        StringBuilder text = new StringBuilder();
        for (int i = 0; i < x.faults(0); i++) {
            text.append((char) x.fault(0, i, false)).append(x.fault(0, i, true)).append(' ');
        }
        return text.toString().trim();
    }

    public static void main(String[] args) {
        opening();
        logging();
        directories();
        softLinks();
        renames();
        rights();
        blocks();
        fullDisc();
        pipes();
        mending();
        Check.end("FilesTest");
    }
}
