/** Part 6 of the terms, sentence by sentence where it names a bound: the log, falls and starts, faults, mending. */
public final class BoundsLogTest {
    private static KernelWorks x;

    private static void row(String what, int due, int op, int b, int c) {
        Check.is(what, Check.row(x, op, b, c), due);
    }

    private static void spoil(int block, int... cells) {
        for (int c = 0; c < cells.length; c++) {
            x.spoil(0, block, c, cells[c]);
        }
    }

    /** "cells that become what they were are not changed"; "gets the number behind the last one, from 1 on". */
    private static void changes() {
        x = Check.driven(0);
        Check.is("no number at first", x.log(0, 'n'), 0);
        Check.is("none safe at first", x.log(0, 's'), 0);
        row("61 as it was", 0, 61, 0, 493);
        Check.is("no change", x.log(0, 'o'), 0);
        Check.is("no number", x.log(0, 'n'), 0);
        row("61", 0, 61, 0, 492);
        Check.is("a change", x.log(0, 'o'), 1);
        Check.is("from 1 on", x.log(0, 'n'), 1);
        row("61 back", 0, 61, 0, 493);
        Check.is("it belongs to it still", x.log(0, 'o'), 1);
        row("65 of the root", -21, 65, 0, 0);
        row("a block more", 0, 50, 1, 7);
        Check.is("map, two inodes, the entry", x.log(0, 'o'), 4);
        Check.is("the same number", x.log(0, 'n'), 1);
        row("64", 0, 64, 0, 0);
        Check.is("safe", x.log(0, 's'), 1);
        x.step(80);
        row("61", 0, 61, 1, 0);
        Check.is("the next number", x.log(0, 'n'), 2);
        Check.is("safe", x.log(0, 's'), 1);
        // A block that is new, and whose cells are 0, as they become.
        x = Check.driven(0);
        row("50", 0, 50, 1, 7);
        row("64", 0, 64, 0, 0);
        x.step(80);
        row("53 of 0", 1, 53, 0, 0);
        Check.is("the map and the inode", x.log(0, 'o'), 2);
        row("53 of 0", 1, 53, 0, 7);
        Check.is("the block", x.log(0, 'o'), 3);
    }

    /** "If the blocks .. together with those of the open transaction, are more than 8, it does nothing, .. closes". */
    private static void eightBlocks() {
        for (int files = 4; files <= 6; files++) {
            x = Check.driven(0);
            for (int n = 1; n < files; n++) {
                row("50", n - 1, 50, n, 7);
            }
            // The map, the root, its block, and an inode for each file.
            Check.is("blocks", x.log(0, 'o'), 2 + files);
            x.tell(0, 0, 58, 1, 20, 0);
            x.step(1);
            boolean fits = files < 6;
            Check.is("the " + (3 + files) + "th block", x.log(0, 'p'), fits ? 0 : 1);
            Check.text("closed by it", Check.events(x, 1), fits ? "" : "c1");
            Check.text("it waits", Check.waits(x, 0, 0), fits ? "h0" : "g0");
            Check.is("it does nothing", x.inode(0, files, 0), fits ? 3 : 0);
            Check.is("asked", x.disc(0, 'q'), fits ? 0 : 8);
        }
        x.step(200);
        Check.is("then it is done", x.inode(0, 6, 0), 3);
        Check.is("in the next transaction", x.log(0, 'n'), 2);
    }

    /** "the disc is asked to write its blocks, by rising numbers, into the log, from the block 2 on .. the record". */
    private static void records() {
        for (int files = 0; files <= 5; files++) {
            x = Check.driven(0);
            row("61", 0, 61, 0, 7);
            for (int n = 1; n <= files; n++) {
                row("58", 0, 58, n, -n);
            }
            int count = files == 0 ? 1 : 3 + files;
            Check.is("blocks", x.log(0, 'o'), count);
            row("64", 0, 64, 0, 0);
            Check.is("the number", x.block(0, 1, 0), 1);
            Check.is("how many", x.block(0, 1, 1), count);
            int[] blocks = new int[count];
            for (int i = 0; i < count; i++) {
                blocks[i] = files == 0 ? 10 : i == 0 ? 0 : i == count - 1 ? 30 : 9 + i;
            }
            for (int c = 2; c < 8; c++) {
                int first = 2 * c - 4;
                int due = first >= count ? 0 : 100 * blocks[first] + (first + 1 < count ? blocks[first + 1] : 99);
                Check.is("cell " + c + " with " + count, x.block(0, 1, c), due);
            }
            for (int i = 0; i < 8; i++) {
                int due = i >= count ? 0 : files == 0 || blocks[i] == 10 ? 2 : blocks[i] == 0 ? 1 : blocks[i] == 30 ? 101 : 3;
                Check.is("log " + i + " of " + count, x.block(0, 2 + i, 0), due);
            }
            x.step(100);
            Check.is("free", x.log(0, 'p'), 0);
            Check.is("the record anew", x.block(0, 1, 0), 1);
            for (int c = 1; c < 8; c++) {
                Check.is("seven times 0", x.block(0, 1, c), 0);
            }
        }
    }

    /** "0 if the log is free, 1 as it is written, 2 the record, 3 the blocks to their places, 4 the record anew". */
    private static void phases() {
        x = Check.driven(0);
        row("50", 0, 50, 1, 7);
        Check.is("free", x.log(0, 'p'), 0);
        x.tell(0, 0, 64, 1, 0, 0);
        x.step(1);
        Check.is("closed", x.log(0, 'p'), 1);
        Check.is("none is open", x.log(0, 'o'), 0);
        Check.text("64 waits for it", Check.waits(x, 0, 0), "s1");
        int[] ends = new int[5];
        for (int i = 0; i < 120; i++) {
            ends[x.log(0, 'p')] = x.time();
            boolean isSafe = x.log(0, 'p') == 0 || x.log(0, 'p') > 2;
            Check.is("safe in " + x.log(0, 'p'), x.log(0, 's'), isSafe && x.time() > 2 ? 1 : 0);
            x.step(1);
            if (x.log(0, 'p') == 0) {
                break;
            }
        }
        // The log: 4 times 2 ticks and one to begin; the record likewise, from 5 to 1; the places 10, 11, 30, 0.
        Check.is("the log is written", ends[1], 2 + 4 * 3 - 1);
        Check.is("the record", ends[2], 2 + 5 * 3 - 1);
        Check.is("the places", ends[3], 2 + 5 * 3 + 3 + 3 + 4 + 6 - 1);
        Check.is("the record anew", ends[4], 2 + 5 * 3 + 3 + 3 + 4 + 6 + 3 - 1);
        Check.text("events", Check.events(x, 1), "c1 d1 i1");
        // 64 without anything to close, and with one that is closed and safe already.
        row("64", 0, 64, 0, 0);
        int time = x.time();
        row("64", 0, 64, 0, 0);
        Check.is("at once", x.time(), time + 1);
    }

    /** "Returns how many blocks are in transactions that are not safe"; what was safe is written from the log. */
    private static void fallsAtAnyTick() {
        for (int ticks = 0; ticks <= 40; ticks++) {
            x = Check.driven(0);
            row("50", 0, 50, 1, 7);
            x.tell(0, 0, 64, 1, 0, 0);
            if (ticks > 0) {
                x.step(ticks);
            }
            int phase = x.log(0, 'p');
            boolean isSafe = x.log(0, 's') == 1;
            Check.is("lost behind " + ticks, x.crash(0), isSafe ? 0 : 4);
            Check.is("an event", x.event(x.events() - 1, 'n'), isSafe ? 0 : 4);
            int told = isSafe && (phase == 3 || phase == 4) ? 4 : 0;
            Check.is("written behind " + ticks, x.boot(0), told);
            Check.is("an event", x.event(x.events() - 1, 'n'), told);
            Check.is("there", x.inode(0, 1, 0), isSafe ? 1 : 0);
            Check.is("isWhole behind " + ticks, x.isWhole(0), true);
            Check.is("no faults", x.faults(0), 0);
            Check.is("number", x.log(0, 'n'), isSafe ? 1 : 0);
            Check.is("safe", x.log(0, 's'), isSafe ? 1 : 0);
            Check.is("the record", x.block(0, 1, 1), 0);
            Check.is("T does not change", x.time(), 1 + ticks);
            Check.is("just process 0", x.process(0, 0, 'c'), 0);
            Check.is("the arm", x.disc(0, 'a'), 0);
        }
    }

    private static String boot(int... record) {
        x = new KernelWorks();
        x.crash(0);
        spoil(1, record);
        for (int i = 0; i < 8; i++) {
            // What the log tells: cells that are no fault, behind the end of the root.
            x.spoil(0, 2 + i, 7, 70 + i);
        }
        int written = x.boot(0);
        boolean isCleared = true;
        for (int c = 1; c < 8; c++) {
            isCleared &= x.block(0, 1, c) == 0;
        }
        return written + (isCleared ? " 0" : "");
    }

    /** "if the cell 1 of the record is 1 to 8, and the first so many numbers told are 0 or 10 to 69 (.. below 0 ..)". */
    private static void recordsThatTell() {
        int[] good = {0, 1, 4041, 4243, 4445, 4647, 0, 0};
        for (int count = -1; count <= 10; count++) {
            int[] record = good.clone();
            record[1] = count;
            boolean may = count >= 1 && count <= 8;
            Check.text("count " + count, boot(record), may ? count + " 0" : "0");
            for (int i = 0; i < 8; i++) {
                Check.is("block " + (40 + i), x.block(0, 40 + i, 7), may && i < count ? 70 + i : 0);
            }
        }
        Check.text("count far above", boot(0, Integer.MAX_VALUE, 4041, 0, 0, 0, 0, 0), "0");
        Check.text("count far below", boot(0, Integer.MIN_VALUE, 4041, 0, 0, 0, 0, 0), "0");
        // The numbers: 0, or 10 to 69, at the first and at the second place.
        int[] blocks = {0, 1, 9, 10, 69, 70, 98, 99};
        for (int b : blocks) {
            boolean may = b == 0 || b >= 10 && b <= 69;
            Check.text("first of " + b, boot(0, 1, 100 * b + 99, 0, 0, 0, 0, 0), may ? "1 0" : "0");
            Check.text("second of " + b, boot(0, 2, 4000 + b, 0, 0, 0, 0, 0), may ? "2 0" : "0");
            Check.text("second of " + b + ", not told", boot(0, 1, 4000 + b, 0, 0, 0, 0, 0), "1 0");
            Check.text("third of " + b, boot(0, 3, 4041, 100 * b + 99, 0, 0, 0, 0), may ? "3 0" : "0");
            Check.text("third of " + b + ", not told", boot(0, 2, 4041, 100 * b + 99, 0, 0, 0, 0), "2 0");
        }
        Check.text("the cells 6 and 7, too", boot(0, 1, 4099, 0, 0, 0, 5, 6), "1 0");
        Check.text("69 and 0", boot(0, 2, 6900, 0, 0, 0, 0, 0), "2 0");
        Check.is("to 69", x.block(0, 69, 7), 70);
        Check.text("10 and 69", boot(0, 2, 1069, 0, 0, 0, 0, 0), "2 0");
        Check.is("to 69", x.block(0, 69, 7), 71);
        Check.text("below 0", boot(0, 1, -1, 0, 0, 0, 0, 0), "0");
        Check.text("below 0", boot(0, 1, -4041, 0, 0, 0, 0, 0), "0");
        Check.text("below 0, among these", boot(0, 3, 4041, -1, 0, 0, 0, 0), "0");
        Check.text("below 0, behind these", boot(0, 2, 4041, -1, 0, 0, 0, 0), "2 0");
        Check.text("far above", boot(0, 1, Integer.MAX_VALUE, 0, 0, 0, 0, 0), "0");
        Check.text("0 tells of the map twice", boot(0, 2, 0, 0, 0, 0, 0, 0), "2 0");
    }

    /** "the number in the record below 0, or above 999999, as 0"; "the transactions go on behind the number". */
    private static void numbersOfRecords() {
        int[][] due = {{-1, 0}, {0, 0}, {1, 1}, {999999, 999999}, {1000000, 0}, {Integer.MIN_VALUE, 0},
            {Integer.MAX_VALUE, 0}};
        for (int[] d : due) {
            x = new KernelWorks();
            x.crash(0);
            x.spoil(0, 1, 0, d[0]);
            x.boot(0);
            Check.is("number " + d[0], x.log(0, 'n'), d[1]);
            Check.is("safe", x.log(0, 's'), d[1]);
            Check.is("its cells stay as they are", x.block(0, 1, 0), d[0]);
            x.spawn(0, 0, -1);
            row("61", 0, 61, 0, 7);
            Check.is("they go on behind it", x.log(0, 'n'), d[1] + 1);
            row("64", 0, 64, 0, 0);
            Check.is("the record", x.block(0, 1, 0), d[1] + 1);
        }
    }

    /** "All is read from the disc then, no block of a file is held .. What has no name, but was used, is given up". */
    private static void starts() {
        x = Check.driven(0);
        for (int n = 1; n <= 3; n++) {
            row("50", n - 1, 50, n, 7);
        }
        row("53", 1, 53, 0, 5);
        row("56", 0, 56, 1, 0);
        row("56", 0, 56, 2, 0);
        row("64", 0, 64, 0, 0);
        x.step(100);
        Check.is("held", x.held(0, 31), true);
        x.does(0, 0, 31, 1, 50, 0);
        int time = x.time();
        x.crash(0);
        x.boot(0);
        Check.is("T", x.time(), time);
        Check.is("not held", x.held(0, 31), false);
        Check.is("loads", x.load(0, 0), 0);
        Check.is("there still", x.inode(0, 1, 0) + x.inode(0, 2, 0), 2);
        Check.is("no fault", x.faults(0), 0);
        x.step(1);
        Check.is("one a tick", x.inode(0, 1, 0), 0);
        Check.is("the next one later", x.inode(0, 2, 0), 1);
        x.step(1);
        Check.is("one a tick", x.inode(0, 2, 0), 0);
        Check.is("one with a name stays", x.inode(0, 3, 0), 1);
        Check.is("isWhole tells of the start", x.isWhole(0), true);
    }

    private static void put(int inode, int... cells) {
        spoil(10 + inode, cells);
    }

    /** A root with the files 1 and 2 and the directory 3, of user 0, without any fault. */
    private static void wholeDisc() {
        x = new KernelWorks();
        x.crash(0);
        spoil(0, 7, 0, 15, 403, 0, 0, 0, 0);
        put(0, 2, 493, 0, 1, 3, 30, 0, 0);
        put(1, 1, 420, 0, 1, 8, 31, 0, 0);
        put(2, 1, 420, 0, 1, 0, 0, 0, 0);
        put(3, 2, 493, 0, 1, 2, 32, 0, 0);
        spoil(30, 101, 202, 303, 0, 0, 0, 0, 0);
        Check.text("no fault", Check.faults(x), "");
    }

    /** "'k' its kind is not 0 to 3 (of the root: not 2)". */
    private static void kinds() {
        for (int kind : new int[] {-1, 4, Integer.MIN_VALUE, Integer.MAX_VALUE}) {
            wholeDisc();
            x.spoil(0, 12, 0, kind);
            Check.text("kind " + kind, Check.faults(x), "k2 e0 m2 m3");
            Check.is("mend", x.mend(0), 4);
            Check.is("all its cells", x.inode(0, 2, 1), 0);
            Check.is("the entry", x.content(0, 0, 1), 0);
        }
        String[] due = {"e0 m2 m3", "", "", ""};
        for (int kind = 0; kind <= 3; kind++) {
            wholeDisc();
            x.spoil(0, 12, 0, kind);
            Check.text("kind " + kind, Check.faults(x), due[kind]);
        }
        for (int kind = 0; kind <= 4; kind++) {
            wholeDisc();
            x.spoil(0, 10, 0, kind);
            Check.text("the root of kind " + kind, Check.faults(x), kind == 2 ? "" : "k0");
            Check.is("it counts as 2", x.find(0, 1), 1);
            x.spoil(0, 10, 1, 7);
            int mended = x.mend(0);
            Check.is("mended", mended > 0, kind != 2);
            Check.is("those as at first", x.inode(0, 0, 1), kind == 2 ? 7 : 493);
            Check.is("nothing is in it", x.inode(0, 0, 4), kind == 2 ? 3 : 0);
            Check.text("no fault is left", Check.faults(x), "");
        }
    }

    /** "'p' one is not 0 and not 30 to 69, otherwise 'd' it was met before"; "a number .. counts as 0". */
    private static void numbers() {
        for (int cell = 5; cell <= 7; cell++) {
            for (int b : new int[] {Integer.MIN_VALUE, -1, 1, 29, 70, Integer.MAX_VALUE}) {
                wholeDisc();
                x.spoil(0, 12, cell, b);
                Check.text("cell " + cell + " of " + b, Check.faults(x), "p2");
                Check.is("mend", x.mend(0), 1);
                Check.is("0", x.inode(0, 2, cell), 0);
            }
            for (int b : new int[] {30, 31, 32}) {
                wholeDisc();
                x.spoil(0, 12, cell, b);
                boolean later = b == 32;
                String numbers = cell < 7 || later ? "" : b == 30 ? " p2 p2 p2" : "";
                String count = b == 30 || b == 31 || b == 32 ? " m3" : "";
                Check.text("cell " + cell + " of " + b, Check.faults(x), (later ? "d3" : "d2") + numbers + count);
            }
            for (int b : new int[] {33, 59, 60, 69}) {
                wholeDisc();
                x.spoil(0, 12, cell, b);
                Check.text("cell " + cell + " of " + b, Check.faults(x), b < 60 ? "m0 m3" : "m1 m3");
                x.mend(0);
                Check.is("the map", b < 60 ? x.block(0, 0, 0) >> b - 30 & 1 : x.block(0, 0, 1) >> b - 60 & 1, 1);
            }
        }
        // The 8 numbers in the block to which the cell 7 leads.
        for (int b : new int[] {-1, 29, 30, 31, 33, 34, 69, 70}) {
            wholeDisc();
            x.spoil(0, 12, 7, 33);
            x.spoil(0, 33, 0, b);
            x.spoil(0, 33, 7, b);
            boolean bad = b < 30 || b > 69;
            String due = bad ? "p2 p2 m0 m3" : b <= 33 ? "d2 d2 m0 m3" : b == 34 ? "d2 m0 m3" : "d2 m0 m1 m3";
            Check.text("numbers of " + b, Check.faults(x), due);
            x.mend(0);
            Check.text("none is left", Check.faults(x), "");
            Check.is("blocks", x.block(0, 0, 3) % 100, b == 34 || b == 69 ? 5 : 4);
        }
        // Of an inode of kind 3 or 0 the cells 5 to 7 are no numbers.
        for (int kind : new int[] {3, 0}) {
            wholeDisc();
            put(4, kind, 0, 0, kind == 3 ? 1 : 0, 0, 5, 40, 31);
            x.spoil(0, 30, 3, kind == 3 ? 404 : 0);
            x.spoil(0, 10, 4, 4);
            x.spoil(0, 0, 2, kind == 3 ? 31 : 15);
            x.spoil(0, 0, 3, kind == 3 ? 503 : 403);
            Check.text("kind " + kind, Check.faults(x), "");
            x.boot(0);
            x.spawn(0, 0, -1);
            if (kind == 3) {
                row("56", 0, 56, 4, 0);
                x.step(2);
                Check.is("given up", x.inode(0, 4, 0), 0);
            }
            Check.text("no block is free by that", Check.faults(x), "");
        }
        // On a disc that is down a number that is none leads nowhere.
        for (int b : new int[] {29, 70}) {
            wholeDisc();
            x.spoil(0, 29, 0, 33);
            x.spoil(0, 33, 0, 77);
            put(1, 1, 420, 0, 1, 80, b, 0, b);
            Check.is("the cell 0", x.content(0, 1, 0), 0);
            Check.is("the cell 16", x.content(0, 1, 16), 0);
            Check.is("an entry in none", x.find(0, 2), 2);
            put(0, 2, 493, 0, 1, 20, b, 30, b);
            Check.is("entries of the second block", x.find(0, 1), 1);
            Check.is("the cell 0", x.content(0, 0, 0), 0);
            Check.is("the cell 16", x.content(0, 0, 16), 0);
        }
    }

    /** "'e' one is not 0, and its name is not 1 to 26, or its inode not 1 to 19, or of none of these kinds". */
    private static void entries() {
        int[] bad = {1, 26, 100, 127, 127 + 100, 199, 100 * 20 + 1, 100 * 4 + 1, -101, -1, Integer.MIN_VALUE,
            Integer.MAX_VALUE};
        for (int v : bad) {
            wholeDisc();
            x.spoil(0, 30, 3, v);
            x.spoil(0, 10, 4, 4);
            Check.text("entry " + v, Check.faults(x), "e0");
            Check.is("mend", x.mend(0), 1);
            Check.is("0", x.content(0, 0, 3), 0);
        }
        for (int v : new int[] {101, 126, 201, 226, 312}) {
            wholeDisc();
            x.spoil(0, 30, 3, v);
            x.spoil(0, 10, 4, 4);
            Check.text("entry " + v, Check.faults(x), "l" + v / 100);
            x.mend(0);
            Check.is("names", x.inode(0, v / 100, 3), 2);
        }
        wholeDisc();
        x.spoil(0, 30, 3, 5);
        Check.text("not below its size", Check.faults(x), "");
        x.spoil(0, 10, 4, 9);
        x.spoil(0, 10, 6, 7);
        Check.text("of those that are in a block", Check.faults(x), "p0 e0");
        // A bad entry is none: the first good one of a name counts.
        wholeDisc();
        spoil(30, 401, 127, 101, 202, 303);
        x.spoil(0, 10, 4, 5);
        Check.text("two bad ones", Check.faults(x), "e0 e0");
        Check.is("the first good one", x.find(0, 1), 1);
        x.boot(0);
        Check.is("find", x.find(0, 1), 1);
    }

    /** "'l' if its cell 3 is not how many entries there are of it .. if that is 0, all its cells 0". */
    private static void names() {
        for (int names : new int[] {Integer.MIN_VALUE, -1, 0, 2, Integer.MAX_VALUE}) {
            wholeDisc();
            x.spoil(0, 11, 3, names);
            Check.text("names " + names, Check.faults(x), "l1");
            Check.is("mend", x.mend(0), 1);
            Check.is("names", x.inode(0, 1, 3), 1);
        }
        wholeDisc();
        x.spoil(0, 30, 0, 0);
        Check.text("no entry", Check.faults(x), "l1");
        Check.is("mended, then the map", x.mend(0), 1 + 3);
        for (int c = 0; c < 8; c++) {
            Check.is("all its cells", x.inode(0, 1, c), 0);
        }
        wholeDisc();
        x.spoil(0, 30, 0, 0);
        x.spoil(0, 11, 3, 0);
        Check.text("0 names without an entry are no fault", Check.faults(x), "");
        wholeDisc();
        x.spoil(0, 10, 3, 5);
        Check.text("of the root it is none", Check.faults(x), "");
        // A directory without a name: its entries are there till it is mended.
        wholeDisc();
        x.spoil(0, 30, 2, 0);
        x.spoil(0, 32, 0, 205);
        Check.text("first", Check.faults(x), "l2 l3");
        x.mend(0);
        Check.is("one name", x.inode(0, 2, 3), 1);
        Check.is("gone", x.inode(0, 3, 0), 0);
    }

    /** "for each cell of the map that is not as the inodes tell: 'm'". */
    private static void maps() {
        for (int c = 0; c < 8; c++) {
            for (int bit : new int[] {0, 29, 30, 31}) {
                wholeDisc();
                int was = x.block(0, 0, c);
                x.spoil(0, 0, c, was ^ 1 << bit);
                Check.text("cell " + c + " with the bit " + bit, Check.faults(x), "m" + c);
                Check.is("mend", x.mend(0), 1);
                Check.is("what it should be", x.block(0, 0, c), was);
            }
        }
        // An owner and group below 0 or above 49 are nobody and none: they count for no user.
        int[][] due = {{-1, -1}, {0, 0}, {9, 0}, {10, 1}, {49, 4}, {50, -1}, {Integer.MAX_VALUE, -1}};
        for (int[] d : due) {
            wholeDisc();
            x.spoil(0, 11, 2, d[0]);
            Check.text("owner " + d[0], Check.faults(x), d[1] == 0 ? "" : d[1] < 0 ? "m3" : "m3 m" + (3 + d[1]));
            x.mend(0);
            for (int u = 0; u < 5; u++) {
                Check.is("of user " + u, x.block(0, 0, 3 + u), (u == 0 ? 302 : 0) + (u == d[1] ? 101 : 0));
            }
        }
    }

    /** "a size below 0 as 0, above 80 as 80, a kind that is not 1 to 3 as 0, .. of a mode the lowest nine bits". */
    private static void spoiledCells() {
        int[][] sizes = {{-1, 0}, {0, 0}, {1, 1}, {79, 79}, {80, 80}, {81, 80}, {Integer.MIN_VALUE, 0},
            {Integer.MAX_VALUE, 80}};
        for (int[] s : sizes) {
            wholeDisc();
            x.spoil(0, 11, 4, s[0]);
            Check.text("size " + s[0], Check.faults(x), "");
            if (s[1] > 0) {
                Check.is("the last cell", x.content(0, 1, s[1] - 1), 0);
            }
            Check.fails("at the size " + s[0], Check.NONE, () -> x.content(0, 1, s[1]));
            x.boot(0);
            Check.is("its cells stay as they are", x.inode(0, 1, 4), s[0]);
            x.spawn(0, 0, -1);
            row("50", 0, 50, 1, 19);
            row("53 at its size", s[1] == 80 ? -27 : 1, 53, 0, 5);
            Check.is("size behind that", x.inode(0, 1, 4), s[1] == 80 ? s[0] : s[1] + 1);
            row("60 tells the cell", x.inode(0, 1, 4), 60, 1, 5);
        }
        int[][] modes = {{512, 0}, {512 + 4, 4}, {-1, 7}, {511, 7}, {1 << 20, 0}};
        for (int[] d : modes) {
            wholeDisc();
            x.spoil(0, 11, 1, d[0]);
            x.boot(0);
            x.spawn(0, 1, -1);
            row("to read with the mode " + d[0], (d[1] & 4) != 0 ? 0 : -1, 50, 1, 1);
            row("to write with the mode " + d[0], (d[1] & 2) != 0 ? 1 : -1, 50, 1, 2);
        }
        // Nobody's file: all are others; without an owner no quota is asked.
        for (int owner : new int[] {-1, 50, 49, 41}) {
            wholeDisc();
            x.spoil(0, 11, 2, owner);
            x.spoil(0, 11, 1, 0607);
            x.boot(0);
            x.user(4, 7, 1, 0, 0);
            x.spawn(0, 4, -1);
            x.spawn(0, 0, -1);
            boolean nobody = owner == -1 || owner == 50;
            row("by user 4", 0, 50, 1, 19);
            row("a block more", nobody ? 1 : -69, 53, 0, 5);
            row("61 by user 4", nobody ? -1 : 0, 61, 1, 0);
            Check.is("62", Check.row(x, 0, 1, 62, 1, 1, 0), 0);
            Check.text("nothing is lost", Check.faults(x), "");
        }
        // 49 is user 4's, -1 and 50 are nobody's.
        for (int owner : new int[] {49, 41, 50, -1}) {
            for (int mode : new int[] {0600, 0006}) {
                wholeDisc();
                x.spoil(0, 11, 2, owner);
                x.spoil(0, 11, 1, mode);
                x.boot(0);
                x.spawn(0, 4, -1);
                boolean isOwner = owner == 49 || owner == 41;
                row("owner " + owner + ", mode " + mode, isOwner == (mode == 0600) ? 0 : -1, 50, 1, 3);
            }
        }
        // A file of user 0 is in group 0, as user 3 is.
        for (int user = 1; user < 5; user++) {
            wholeDisc();
            x.spoil(0, 11, 1, 0040);
            x.boot(0);
            x.spawn(0, user, -1);
            row("group 0, by user " + user, user == 3 ? 0 : -1, 50, 1, 1);
        }
        // The group 9 is none of those that users have; the group 2 is.
        for (int owner : new int[] {29, 22, 12}) {
            wholeDisc();
            x.spoil(0, 11, 2, owner);
            x.spoil(0, 11, 1, 040);
            x.boot(0);
            x.user(4, 4, 1, 40, 20);
            x.spawn(0, 4, -1);
            row("of the group " + owner % 10, owner == 29 ? -1 : 0, 50, 1, 1);
        }
    }

    /** "so again until there are none": what mending makes is a fault of the next time. */
    private static void mendedAgain() {
        wholeDisc();
        // 3 leads to 4, 4 to 5, 5 to 6; the entry of 3 is gone.
        for (int i = 4; i <= 6; i++) {
            put(i, 2, 493, 0, 1, 1, 29 + i, 0, 0);
        }
        x.spoil(0, 32, 0, 401);
        x.spoil(0, 33, 0, 501);
        x.spoil(0, 34, 0, 601);
        x.mend(0);
        Check.text("none is left", Check.faults(x), "");
        x.spoil(0, 30, 2, 0);
        Check.text("just one at first", Check.faults(x), "l3");
        Check.is("all four, and the map each time", x.mend(0) >= 4, true);
        for (int i = 3; i <= 6; i++) {
            Check.is("gone", x.inode(0, i, 0), 0);
        }
        Check.is("mend again", x.mend(0), 0);
        Check.is("as it was without them", x.block(0, 0, 3), 302);
        Check.is("boot", x.boot(0), 0);
        Check.is("isWhole", x.isWhole(0), false);
        Check.is("isSound", x.isSound(), true);
    }

    /** "isWhole .. as behind the start before that, or at first, but for what transactions wrote that were safe". */
    private static void wholeness() {
        for (int block : new int[] {0, 1, 2, 9, 10, 69}) {
            x = new KernelWorks();
            Check.is("it never was started anew", x.isWhole(0), true);
            x.crash(0);
            x.spoil(0, block, block == 1 || block == 10 ? 0 : 7, block == 10 ? 2 : 9);
            x.spoil(0, block, 5, block == 69 ? 7 : x.block(0, block, 5));
            Check.is("before the start", x.isWhole(0), true);
            x.boot(0);
            // The map is mended; the blocks 1 to 9 do not count; 10 is as it was.
            Check.is("block " + block, x.isWhole(0), block != 69);
            x.crash(0);
            x.boot(0);
            Check.is("as behind the start before", x.isWhole(0), true);
        }
        int[][] cells = {{10, 1}, {10, 4}, {11, 7}, {29, 0}, {30, 0}, {30, 7}, {69, 0}, {69, 7}};
        for (int[] c : cells) {
            x = new KernelWorks();
            x.crash(0);
            x.spoil(0, c[0], c[1], 1);
            x.boot(0);
            Check.is("cell " + c[1] + " of " + c[0], x.isWhole(0), false);
        }
        // What transactions wrote that were safe, each cell of it.
        x = Check.driven(0);
        row("50", 0, 50, 1, 7);
        for (int c = 0; c < 8; c++) {
            row("53", 1, 53, 0, 50 + c);
        }
        row("54", 0, 54, 0, 79);
        row("53", 1, 53, 0, 60);
        row("64", 0, 64, 0, 0);
        x.crash(0);
        x.boot(0);
        Check.is("all is there", x.content(0, 1, 7) * 100 + x.content(0, 1, 79), 5760);
        Check.is("isWhole", x.isWhole(0), true);
    }

    /** "What (c) in a tick gives up": it is in a transaction in that tick; with more than 8 blocks that closes. */
    private static void givingUp() {
        x = Check.driven(0);
        row("50", 0, 50, 1, 7);
        row("53", 1, 53, 0, 5);
        row("56", 0, 56, 1, 0);
        row("64", 0, 64, 0, 0);
        x.step(80 - x.time() % 16);
        row("51", 0, 51, 0, 0);
        Check.is("not yet", x.inode(0, 1, 0), 1);
        Check.is("nothing is open", x.log(0, 'o'), 0);
        int given = x.log(0, 'n');
        x.step(1);
        Check.is("given up", x.inode(0, 1, 0), 0);
        Check.is("the map and the inode", x.log(0, 'o'), 2);
        Check.is("its number", x.log(0, 'n'), given + 1);
        // 7 blocks are open as a file with 2 blocks more is to be given up.
        x = Check.driven(0);
        row("50", 0, 50, 1, 7);
        row("56", 0, 56, 1, 0);
        row("64", 0, 64, 0, 0);
        x.step(80);
        for (int n = 2; n <= 6; n++) {
            row("58", 0, 58, n, 0);
        }
        Check.is("8 blocks", x.log(0, 'o'), 8);
        row("51", 0, 51, 0, 0);
        int from = x.events();
        x.step(1);
        Check.is("it does nothing", x.inode(0, 1, 0), 1);
        Check.is("the open one closes", x.log(0, 'p'), 1);
        Check.text("closed", Check.events(x, from), "c" + x.log(0, 'n'));
        for (int i = 0; i < 80 && x.log(0, 'p') != 0; i++) {
            Check.is("as long as the log is not free", x.inode(0, 1, 0), 1);
            x.step(1);
        }
        x.step(1);
        Check.is("then it is given up", x.inode(0, 1, 0), 0);
    }

    /** "the open transaction closes": that one alone, the next one stays open. */
    private static void closedOnce() {
        x = Check.driven(0);
        x.step(1);
        for (int n = 1; n <= 6; n++) {
            row("50", n - 1, 50, n, 7);
        }
        Check.is("the second one", x.log(0, 'n'), 2);
        Check.is("open", x.log(0, 'o'), 4);
        int time = x.time();
        for (int i = 0; i < 15 && x.time() % 16 != 15; i++) {
            x.step(1);
            Check.is("it stays open", x.log(0, 'p'), 0);
        }
        Check.is("it was waited for", time > 30, true);
    }

    /** "64 .. if one closed and is not safe, the thread waits for it": as the log and as the record is written. */
    private static void safety() {
        for (int ticks = 1; ticks <= 40; ticks++) {
            x = Check.driven(0, 0);
            row("61", 0, 61, 0, 7);
            x.tell(0, 0, 64, 1, 0, 0);
            x.step(ticks);
            int phase = x.log(0, 'p');
            x.tell(0, 1, 64, 1, 0, 0);
            x.step(1);
            boolean waits = x.log(0, 'p') == 1 || x.log(0, 'p') == 2;
            Check.text("64 in " + phase + " behind " + ticks, Check.waits(x, 0, 1), waits ? "s1" : "h0");
            if (!waits) {
                Check.is("R(a)", x.register(0, 1, 1), 0);
                Check.is("safe", x.log(0, 's'), 1);
            }
        }
    }

    /** "When a machine falls down, all is gone but the blocks of its disc as far as they were written". */
    private static void whatIsGone() {
        x = Check.driven(0, 0);
        row("66", 1, 66, 0, 0);
        row("53", 1, 53, 1, 5);
        row("71", 0, 71, 65, 0);
        row("71", 0, 71, 0, 0);
        row("71", 0, 71, 66, 0);
        row("50", 2, 50, 1, 7);
        row("53", 1, 53, 2, 5);
        Check.type(x, 0, "ab\ncd");
        x.tell(0, 1, 64, 1, 0, 0);
        x.step(1);
        x.does(0, 0, 31, 1, 90, 0);
        Check.is("asked", x.disc(0, 'q') + x.disc(0, 'l') > 2, true);
        x.crash(0);
        x.boot(0);
        Check.is("nothing is asked", x.disc(0, 'q'), 0);
        Check.is("nothing is done", x.disc(0, 'b') * 10 + x.disc(0, 'l'), -10);
        Check.is("no transaction", x.log(0, 'o') * 10 + x.log(0, 'p'), 0);
        Check.is("no keys", x.keys(0, true) * 10 + x.keys(0, false), 0);
        x.spawn(0, 0, -1);
        row("66", 1, 66, 0, 0);
        x.tell(0, 0, 52, 1, 0, 2);
        x.step(1);
        Check.text("the pipe has nothing", Check.waits(x, 0, 0), "p0");
        x.step(9);
        Check.fails("the printer has nothing", Check.NONE, () -> x.printed(0, 1));
        x.spawn(0, 0, -1);
        Check.is("no job is begun", Check.row(x, 0, 1, 71, 1, 0, 0), 0);
        x.step(9);
        Check.fails("the printer has nothing", Check.NONE, () -> x.printed(0, 1));
        Check.is("61", Check.row(x, 0, 1, 61, 1, 0, 7), 0);
        Check.is("the number behind the record", x.log(0, 'n'), 1);
        Check.is("one block", x.log(0, 'o'), 1);
    }

    /** "its inode not 1 to 19": the last one, in a block with numbers, with the last name. */
    private static void lastOnes() {
        x = new KernelWorks();
        x.crash(0);
        put(0, 2, 493, 0, 1, 80, 30, 31, 32);
        put(19, 2, 493, 0, 1, 0, 0, 0, 0);
        spoil(32, 0, 0, 0, 0, 0, 0, 0, 69);
        spoil(69, 0, 0, 0, 0, 0, 0, 0, 1926);
        spoil(0, 7, 512, 1 + (1 << 19), 204, 0, 0, 0, 0);
        Check.text("no fault", Check.faults(x), "");
        Check.is("find", x.find(0, 26), 19);
        Check.is("content", x.content(0, 0, 79), 1926);
        x.spoil(0, 31, 7, 2026);
        x.spoil(0, 31, 0, 1927);
        x.spoil(0, 69, 0, 1900);
        Check.text("bad ones", Check.faults(x), "e0 e0 e0");
        Check.is("mend", x.mend(0), 3);
        Check.is("the cell 8", x.content(0, 0, 8), 0);
        Check.is("the cell 15", x.content(0, 0, 15), 0);
        Check.is("the cell 72", x.content(0, 0, 72), 0);
        Check.is("the cell 79", x.content(0, 0, 79), 1926);
        x.boot(0);
        Check.is("isWhole", x.isWhole(0), false);
        x.spawn(0, 0, -1);
        row("55", 0, 55, Check.path(26, 1), 0);
        row("59 of the last entry", 0, 59, 26, 1);
        Check.is("the first cell", x.content(0, 0, 0), 1901);
        Check.is("the entry is 0", x.content(0, 0, 79), 0);
        row("59 into itself", -22, 59, 1, Check.path(1, 1, 1));
        row("56 with entries", -39, 56, 1, 0);
        row("56", 0, 56, Check.path(1, 1), 0);
        row("56", 0, 56, 1, 0);
        row("64", 0, 64, 0, 0);
        x.step(100);
        Check.is("just the root", x.block(0, 0, 2), 1);
        Check.text("no fault", Check.faults(x), "");
    }

    public static void main(String[] args) {
        changes();
        eightBlocks();
        records();
        phases();
        fallsAtAnyTick();
        recordsThatTell();
        numbersOfRecords();
        starts();
        kinds();
        numbers();
        entries();
        names();
        maps();
        spoiledCells();
        mendedAgain();
        wholeness();
        givingUp();
        closedOnce();
        safety();
        whatIsGone();
        lastOnes();
        Check.end("BoundsLogTest");
    }
}
