/** Part 5 of the terms, sentence by sentence where it names a bound: inodes, rights, paths, blocks, commands, pipes. */
public final class BoundsFilesTest {
    private static KernelWorks x;

    private static void row(String what, int due, int op, int b, int c) {
        Check.is(what, Check.row(x, op, b, c), due);
    }

    private static int as(int thread, int op, int b, int c) {
        return Check.row(x, 0, thread, op, 1, b, c);
    }

    /** Five driven processes, of the users 0 to 4; all may do all in the root. */
    private static void users() {
        x = Check.driven(0, 1, 2, 3, 4);
        row("61", 0, 61, 0, 511);
    }

    /** "At first all cells are 0, but for the root, inode 0: .. mode 493 and one name, and for the map". */
    private static void discAtFirst() {
        x = new KernelWorks();
        for (int m = 0; m < 3; m += 2) {
            int sum = 0;
            for (int b = 0; b < 82; b++) {
                for (int c = 0; c < 8; c++) {
                    sum += x.block(m, b, c);
                }
            }
            Check.is("all cells", sum, 1 + 100 + 2 + 493 + 1);
            Check.is("the inode 0 is used", x.block(m, 0, 2), 1);
            Check.is("an inode of user 0", x.block(m, 0, 3), 100);
            Check.is("a directory", x.block(m, 10, 0), 2);
            Check.is("mode", x.block(m, 10, 1), 493);
            Check.is("names", x.block(m, 10, 3), 1);
        }
        Check.fails("no block 82", Check.INDEX, () -> x.block(0, 82, 0));
    }

    /** "u has the group u % 3, and those of its bits, 0 to 7 (at first 0)"; "the first of these that a user is". */
    private static void groupsAndRights() {
        users();
        // A file of user 1, which is in group 1, as user 4 is.
        Check.is("50", as(1, 50, 1, 7), 0);
        Check.is("owner and group", x.inode(0, 1, 2), 11);
        int[][] due = {{0700, 1, 0, 0, 0}, {0070, 0, 0, 0, 1}, {0007, 0, 1, 1, 0}, {0770, 1, 0, 0, 1}, {0077, 0, 1, 1, 1},
            {0707, 1, 1, 1, 0}, {0777, 1, 1, 1, 1}, {0000, 0, 0, 0, 0}, {0600, 1, 0, 0, 0}, {0060, 0, 0, 0, 1},
            {0400, 0, 0, 0, 0}, {0200, 0, 0, 0, 0}, {0100, 0, 0, 0, 0}};
        for (int[] d : due) {
            Check.is("61", as(1, 61, 1, d[0]), 0);
            for (int u = 0; u < 5; u++) {
                boolean may = u == 0 || d[u] == 1;
                int answer = as(u, 50, 1, 3);
                Check.is("mode " + d[0] + " of user " + u, answer >= 0, may);
                Check.is("otherwise -1", may || answer == -1, true);
                if (answer >= 0) {
                    as(u, 51, answer, 0);
                }
            }
        }
        // By its bits user 2 is in group 1, too: 2 is the bit of group 1.
        Check.is("61", as(1, 61, 1, 0070), 0);
        for (int bits = 0; bits < 8; bits++) {
            x.user(2, bits, 1, 40, 20);
            Check.is("bits " + bits, as(2, 50, 1, 1) >= 0, (bits & 2) != 0);
            as(2, 51, 0, 0);
        }
    }

    /** "to read, to write, to look (of directories: to go through)"; of each flag of 50, of 61, 63, 65, 70. */
    private static void kindsOfRights() {
        users();
        Check.is("55", as(1, 55, 1, 0), 0);
        Check.is("50", as(1, 50, Check.path(1, 2), 7), 0);
        int[] modes = {0, 1, 2, 3, 4, 5, 6, 7};
        for (int mode : modes) {
            Check.is("61", as(1, 61, Check.path(1, 2), mode), 0);
            for (int flags = 1; flags <= 3; flags++) {
                boolean may = (mode & 4) != 0 || (flags & 1) == 0;
                may &= (mode & 2) != 0 || (flags & 2) == 0;
                int answer = as(2, 50, Check.path(1, 2), flags);
                Check.is("mode " + mode + " with " + flags, answer, may ? 0 : -1);
                as(2, 51, 0, 0);
            }
            Check.is("65 with mode " + mode, as(2, 65, Check.path(1, 2), 0), (mode & 2) != 0 ? 0 : -1);
        }
        Check.is("61", as(1, 61, Check.path(1, 2), 0777), 0);
        for (int mode : modes) {
            Check.is("61", as(1, 61, 1, 0700 + mode), 0);
            boolean look = (mode & 1) != 0;
            boolean put = (mode & 3) == 3;
            Check.is("walk with " + mode, as(2, 60, Check.path(1, 2), 0), look ? 2 : -1);
            Check.is("63 with " + mode, as(2, 63, 1, 0), look ? 0 : -1);
            Check.is("70 with " + mode, as(2, 70, 1, 0), (mode & 4) != 0 ? 202 : -1);
            Check.is("58 with " + mode, as(2, 58, Check.path(1, 5), 1), put ? 0 : -1);
            Check.is("57 with " + mode, as(2, 57, Check.path(1, 2), Check.path(1, 6)), put ? 0 : -1);
            Check.is("59 with " + mode, as(2, 59, Check.path(1, 2), Check.path(1, 7)), put ? 0 : -1);
            Check.is("59 back", as(0, 59, Check.path(1, 7), Check.path(1, 2)), put ? 0 : -2);
            Check.is("56 with " + mode, as(2, 56, Check.path(1, 2), 0), put ? 0 : -1);
            if (put) {
                Check.is("56 of the other name", as(2, 56, Check.path(1, 5), 0), 0);
                Check.is("59 back", as(0, 59, Check.path(1, 6), Check.path(1, 2)), 0);
            }
            as(2, 63, 0, 0);
        }
        // -17, -2 and -39 against -1: -2 goes ahead of it in 56 and 59, -17 ahead of it in 55, 57 and 58.
        Check.is("61", as(1, 61, 1, 0701), 0);
        Check.is("56 without an entry", as(2, 56, Check.path(1, 9), 0), -2);
        Check.is("59 without an entry", as(2, 59, Check.path(1, 9), 5), -2);
        Check.is("55 of one that is there", as(2, 55, Check.path(1, 2), 0), -17);
        Check.is("58 of one that is there", as(2, 58, Check.path(1, 2), 0), -17);
        Check.is("57 to one that is there", as(2, 57, Check.path(1, 2), Check.path(1, 2)), -17);
        Check.is("55 of one that is not", as(2, 55, Check.path(1, 9), 0), -1);
    }

    /** "A path is a number, whose digits to the base 27 are names .. 0 is the root; one below 0 is taken without sign". */
    private static void paths() {
        x = Check.driven(0);
        row("55", 0, 55, 26, 0);
        Check.is("name 26", x.content(0, 0, 0), 126);
        row("27 has a digit 0", -22, 60, 27, 0);
        row("28 has two names", -2, 60, 28, 0);
        row("26 names 26", 1, 60, 26, 0);
        row("the root", 0, 60, 0, 0);
        int[] bad = {27, 54, 27 * 27, 27 * 27 + 1, -27, -27 * 27 - 1, Integer.MIN_VALUE, 27 * 27 * 27 * 27 * 27 * 27};
        for (int p : bad) {
            row("a digit 0 in " + p, -22, 60, p, 0);
            row("50 of " + p, -22, 50, p, 7);
            row("55 of " + p, -22, 55, p, 0);
            row("63 to " + p, -22, 63, p, 0);
        }
        row("the greatest path", -2, 60, Integer.MAX_VALUE, 0);
        row("the least path", -2, 60, -Integer.MAX_VALUE, 0);
        // A digit 0 is told ahead of the walk.
        row("ahead of -20", -22, 60, 27 * 27 * 9 + 5, 0);
        // One below 0 is taken from the directory of the process.
        row("63", 0, 63, 26, 0);
        row("below 0", 0, 55, -3, 0);
        Check.is("in the directory", x.find(0, Check.path(26, 3)), 2);
        row("-1", -2, 60, -1, 0);
        row("two names below 0", 0, 55, -Check.path(3, 4), 0);
        row("two names below 0", 3, 60, -Check.path(3, 4), 0);
        row("from the root", -2, 60, Check.path(3, 4), 0);
        row("0 is the root still", 0, 60, 0, 0);
        // Six and seven names.
        int deep = 0;
        for (int n = 1; n <= 6; n++) {
            deep = deep * 27 + 1;
            row("55", 0, 55, deep, 0);
        }
        row("six names", x.find(0, deep), 60, deep, 0);
        row("seven names", 0, 55, deep * 27 + 1, 0);
        Check.is("find", x.find(0, deep * 27 + 1), 10);
    }

    /** "what one is at must be a directory, otherwise -20; the user may look in it, otherwise -1; .. otherwise -2." */
    private static void walks() {
        users();
        Check.is("55", as(1, 55, 1, 0), 0);
        Check.is("50", as(1, 50, Check.path(1, 2), 7), 0);
        Check.is("through a file", as(2, 60, Check.path(1, 2, 3), 0), -20);
        Check.is("61", as(1, 61, 1, 0700), 0);
        Check.is("may not look", as(2, 60, Check.path(1, 2, 3), 0), -1);
        Check.is("may not look, there or not", as(2, 60, Check.path(1, 9), 0), -1);
        Check.is("user 0 may all", as(0, 60, Check.path(1, 9), 0), -2);
        Check.is("the directory itself", as(2, 60, 1, 0), 1);
        // The place: -20 if it is none, -22 without names, -2 if it has no name itself.
        Check.is("a place in a file", as(0, 55, Check.path(1, 2, 3), 0), -20);
        Check.is("a place that there is not", as(0, 55, Check.path(2, 3), 0), -2);
        Check.is("55 of the root", as(0, 55, 0, 0), -22);
        Check.is("56 of the root", as(0, 56, 0, 0), -22);
        Check.is("57 to the root", as(0, 57, Check.path(1, 2), 0), -22);
        Check.is("58 of the root", as(0, 58, 0, 0), -22);
        Check.is("59 of the root", as(0, 59, 0, 1), -22);
        Check.is("59 to the root", as(0, 59, 1, 0), -22);
        Check.is("55", as(0, 55, 5, 0), 0);
        Check.is("63", as(0, 63, 5, 0), 0);
        Check.is("56", as(0, 56, 5, 0), 0);
        Check.is("55 where there is no name", as(0, 55, -1, 0), -2);
        Check.is("50 where there is no name", as(0, 50, -1, 7), -2);
        Check.is("57 where there is no name", as(0, 57, Check.path(1, 2), -1), -2);
        Check.is("58 where there is no name", as(0, 58, -1, 1), -2);
        Check.is("59 where there is no name", as(0, 59, Check.path(1, 2), -1), -2);
        Check.is("56 where there is no name", as(0, 56, -1, 0), -2);
        Check.is("63 to where one is: there is no path", as(0, 63, -1, 0), -2);
    }

    /** "it is not followed as the last name where that is told; the fifth one in a walk is -40." */
    private static void softLinks() {
        for (int links = 3; links <= 6; links++) {
            x = Check.driven(0);
            row("50", 0, 50, 1, 7);
            for (int n = 0; n < links; n++) {
                row("58", 0, 58, 2 + n, 1 + n);
            }
            boolean may = links < 5;
            row("60 through " + links, may ? 1 : -40, 60, 1 + links, 0);
            row("50 through " + links, may ? 1 : -40, 50, 1 + links, 1);
            row("57 takes the link itself", 0, 57, 1 + links, 20);
            row("59 takes the link itself", 0, 59, 1 + links, 21);
            row("56 takes the link itself", 0, 56, 21, 0);
            Check.is("the file has one name", x.inode(0, 1, 3), 1);
        }
        // A link to itself; one to nothing; one below 0, from the directory in which it is.
        x = Check.driven(0);
        row("58", 0, 58, 1, 1);
        row("to itself", -40, 60, 1, 0);
        row("50 of it with 4", -40, 50, 1, 7);
        row("58", 0, 58, 2, 9);
        row("to nothing", -2, 60, 2, 0);
        row("no file is made by it", -2, 50, 2, 7);
        Check.fails("none", Check.NONE, () -> x.find(0, 9));
        row("58 with a digit 0", 0, 58, 3, 54);
        row("its path is looked at as it is followed", -22, 60, 3, 0);
        row("58 of the least", 0, 58, 4, Integer.MIN_VALUE);
        row("the least", -22, 60, 4, 0);
        row("55", 0, 55, 5, 0);
        row("55", 0, 55, Check.path(5, 6), 0);
        row("58", 0, 58, Check.path(5, 7), -6);
        row("from its directory", x.find(0, Check.path(5, 6)), 60, Check.path(5, 7), 0);
        row("58 to the root", 0, 58, Check.path(5, 8), 0);
        row("the root", 0, 60, Check.path(5, 8), 0);
        row("names behind it", x.find(0, 5), 60, Check.path(5, 8, 5), 0);
        row("through it to a place", 0, 55, Check.path(5, 7, 1), 0);
        Check.is("in the place", x.find(0, Check.path(5, 6, 1)) > 0, true);
        row("56 through it", 0, 56, Check.path(5, 7, 1), 0);
    }

    /** "it becomes the first cell that is 0 below the size of the directory, otherwise the one at its size (-27 ..)". */
    private static void entries() {
        x = Check.driven(0);
        for (int n = 1; n <= 3; n++) {
            row("58", 0, 58, n, 0);
        }
        Check.is("size", x.inode(0, 0, 4), 3);
        row("56", 0, 56, 2, 0);
        Check.is("the size stays", x.inode(0, 0, 4), 3);
        Check.is("0", x.content(0, 0, 1), 0);
        row("58", 0, 58, 9, 0);
        Check.is("the first that is 0", x.content(0, 0, 1) % 100, 9);
        Check.is("the size stays", x.inode(0, 0, 4), 3);
        row("58", 0, 58, 8, 0);
        Check.is("the one at its size", x.content(0, 0, 3) % 100, 8);
        Check.is("the size is 1 more", x.inode(0, 0, 4), 4);
        // A directory of 79 entries, all the same name, told on the disc; the 80th is the last one.
        x = new KernelWorks();
        x.crash(0);
        for (int cell = 0; cell < 79; cell++) {
            x.spoil(0, cell < 8 ? 30 : cell < 16 ? 31 : 31 + cell / 8, cell % 8, 101);
        }
        int[] root = {2, 493, 0, 1, 79, 30, 31, 32};
        int[] file = {1, 420, 0, 79, 0, 0, 0, 0};
        for (int c = 0; c < 8; c++) {
            x.spoil(0, 10, c, root[c]);
            x.spoil(0, 11, c, file[c]);
            x.spoil(0, 32, c, 33 + c);
        }
        x.boot(0);
        x.spawn(0, 0, -1);
        Check.is("79 names", x.inode(0, 1, 3), 79);
        row("the 80th", 0, 57, 1, 5);
        Check.is("size", x.inode(0, 0, 4), 80);
        row("the 81st", -27, 57, 1, 6);
        row("the 81st", -27, 55, 6, 0);
        row("the 81st", -27, 50, 6, 7);
        Check.is("nothing is used for it", x.block(0, 0, 2), 3);
        row("56 makes one 0", 0, 56, 1, 0);
        row("that is taken", 0, 57, 5, 6);
        Check.is("the first cell", x.content(0, 0, 0), 106);
    }

    /** "-69 if that is above the owner's quota, of which there is none for user 0, otherwise -28 if there is none." */
    private static void quotas() {
        for (int quota = 0; quota <= 3; quota++) {
            users();
            x.user(1, 0, 1, quota, 20);
            Check.is("50", as(1, 50, 1, 7), 0);
            for (int b = 0; b < 4; b++) {
                as(1, 54, 0, 8 * b);
                // The third block needs one with numbers ahead of it.
                int need = b < 2 ? b + 1 : b + 2;
                int answer = as(1, 53, 0, 5);
                Check.is("quota " + quota + ", block " + b, answer, need <= quota ? 1 : -69);
            }
            Check.is("blocks", as(1, 60, 1, 6), Math.min(quota, 2));
            Check.is("nothing is left of what was refused", x.inode(0, 1, 7), 0);
        }
        users();
        x.user(1, 0, 1, 4, 20);
        Check.is("50", as(1, 50, 1, 7), 0);
        as(1, 54, 0, 16);
        Check.is("two by one write", as(1, 53, 0, 5), 1);
        as(1, 54, 0, 24);
        Check.is("the third", as(1, 53, 0, 5), 1);
        as(1, 54, 0, 0);
        Check.is("the fourth", as(1, 53, 0, 5), 1);
        as(1, 54, 0, 8);
        Check.is("the fifth", as(1, 53, 0, 5), -69);
        // It counts for the owner, whoever writes; user 0 has no quota.
        as(1, 61, 1, 511);
        Check.is("50", as(2, 50, 1, 3), 0);
        as(2, 54, 0, 8);
        Check.is("another one writes", as(2, 53, 0, 5), -69);
        x.user(0, 0, 1, 0, 0);
        Check.is("50 by user 0", as(0, 50, 2, 7), 0);
        Check.is("53 by user 0", as(0, 53, 0, 5), 1);
        // "62 .. what it has counts for the new owner then; no quota hinders that."
        x.user(2, 0, 1, 0, 0);
        Check.is("62", as(0, 62, 1, 22), 0);
        Check.is("64", as(0, 64, 0, 0), 0);
        x.step(80);
        Check.is("of user 1", x.block(0, 0, 4), 0);
        Check.is("of user 2", x.block(0, 0, 5), 104);
    }

    /** "A new inode is the lowest that is not used .. likewise for the user of the process, -69 and -28". */
    private static void inodes() {
        users();
        x.user(1, 0, 1, 40, 2);
        Check.is("the lowest", as(1, 55, 1, 0), 0);
        Check.is("58", as(1, 58, 2, 0), 0);
        Check.is("above the quota", as(1, 58, 3, 0), -69);
        Check.is("above the quota", as(1, 50, 3, 7), -69);
        Check.is("one name more is no inode", as(1, 57, 2, 3), 0);
        Check.is("56", as(1, 56, 3, 0), 0);
        Check.is("56", as(1, 56, 2, 0), 0);
        x.step(60);
        Check.is("one is free again", as(1, 55, 2, 0), 0);
        Check.is("the lowest again", x.find(0, 2), 2);
        for (int n = 3; n <= 19; n++) {
            Check.is("58", as(0, 58, n, 0), 0);
        }
        Check.is("20 are used", as(0, 58, 20, 0), -28);
        Check.is("a quota goes ahead of that", as(1, 58, 20, 0), -69);
        Check.is("-28 for others", as(2, 58, 20, 0), -28);
        Check.is("-17 ahead of both", as(1, 58, 19, 0), -17);
        Check.is("61", as(0, 61, 0, 493), 0);
        Check.is("-1 of the place ahead of -69", as(1, 58, 20, 0), -1);
    }

    /** "A block .. is the lowest that is not used .. -28 if there is none": 40 blocks. */
    private static void allBlocks() {
        x = Check.driven(0);
        // The root has one; 3 files of 10 and their numbers are 33; 6 are left for the fourth, with its numbers.
        for (int f = 1; f <= 4; f++) {
            row("50", 0, 50, f, 7);
            for (int b = 9; b >= 0; b--) {
                row("54", 0, 54, 0, 8 * b);
                int left = f < 4 ? 1 : 9 - b < 5 ? 1 : -28;
                row("file " + f + ", block " + b, left, 53, 0, f);
            }
            row("51", 0, 51, 0, 0);
        }
        Check.is("all blocks", x.inode(0, 4, 7), 64);
        row("blocks", 6, 60, 4, 6);
        row("no entry is lost", 0, 60, 0, 0);
        row("65 frees", 0, 65, 1, 0);
        row("50", 0, 50, 4, 3);
        row("the lowest that is not used", 1, 53, 0, 7);
        Check.is("block", x.inode(0, 4, 5), 31);
        Check.is("isSound", x.isSound(), true);
    }

    /** "while more than 8 are held, the one that was not read or written .. for the longest time .. is held no more." */
    private static void heldBlocks() {
        x = Check.driven(0);
        row("50", 0, 50, 1, 7);
        for (int b = 0; b < 8; b++) {
            row("54", 0, 54, 0, 8 * b);
            row("53", 1, 53, 0, b);
        }
        x.step(100);
        Check.text("8 are held", heldText(), "31 32 34 35 36 37 38 39");
        row("54", 0, 54, 0, 0);
        row("reading one", 0, 52, 0, 2);
        row("54", 0, 54, 0, 64);
        row("a new one", 1, 53, 0, 8);
        Check.text("the second was not used for the longest time", heldText(), "31 34 35 36 37 38 39 40");
        row("54", 0, 54, 0, 72);
        row("a new one", 1, 53, 0, 9);
        Check.text("then the third", heldText(), "31 35 36 37 38 39 40 41");
        // One that comes: the next one is held no more.
        x.step(100);
        row("54", 0, 54, 0, 8);
        row("one that is not held", 1, 52, 0, 2);
        Check.text("then the fourth", heldText(), "31 32 36 37 38 39 40 41");
        Check.is("one that becomes free is not held", Check.row(x, 65, 1, 72), 0);
        Check.text("41 is free", heldText(), "31 32 36 37 38 39 40");
        Check.is("no block of a file", x.held(0, 33), false);
    }

    private static String heldText() {
        StringBuilder text = new StringBuilder();
        for (int b = 30; b < 70; b++) {
            if (x.held(0, b)) {
                text.append(b).append(' ');
            }
        }
        return text.toString().trim();
    }

    /** "V(c) the sum of 1 to read, 2 to write, ..: -22 if that is not 1 to 63, or has neither 1 nor 2; -24; -23". */
    private static void opening() {
        for (int flags = -2; flags <= 66; flags++) {
            x = Check.driven(0);
            boolean may = flags >= 1 && flags <= 63 && (flags & 3) != 0;
            boolean makes = (flags & 4) != 0;
            row("50 of none with " + flags, !may ? -22 : makes ? 0 : -2, 50, 1, flags);
            row("50", may && makes ? 1 : 0, 50, 2, 7);
            row("53", 1, 53, may && makes ? 1 : 0, 5);
            boolean anew = (flags & 36) == 36;
            int number = may && makes ? 2 : 1;
            row("50 of one with " + flags, !may ? -22 : anew ? -17 : number, 50, 2, flags);
            boolean cuts = may && !anew && (flags & 10) == 10;
            Check.is("cut by " + flags, x.inode(0, x.find(0, 2), 4), cuts ? 0 : 1);
            row("50 of the root with " + flags, !may ? -22 : anew ? -17 : -21, 50, 0, flags);
        }
        for (int flags : new int[] {Integer.MIN_VALUE, Integer.MAX_VALUE, 127, 1001}) {
            x = Check.driven(0);
            row("50 with " + flags, -22, 50, 1, flags);
        }
        // Six numbers; the lowest is taken; -22 and -24 go ahead of -23, all ahead of the walk.
        x = Check.driven(0, 0, 0);
        for (int f = 0; f < 6; f++) {
            row("50", f, 50, 1, 7);
        }
        row("without a number", -24, 50, 27, 7);
        row("flags ahead of that", -22, 50, 1, 0);
        row("51", 0, 51, 4, 0);
        row("51", 0, 51, 2, 0);
        row("the lowest", 2, 50, 1, 1);
        row("the next", 4, 50, 1, 1);
        for (int f = 0; f < 6; f++) {
            Check.is("50", as(1, 50, 1, 1), f);
        }
        for (int f = 0; f < 4; f++) {
            Check.is("up to 16", as(2, 50, 1, 1), f);
        }
        Check.is("the 17th", as(2, 50, 27, 1), -23);
        Check.is("-24 ahead of it", as(1, 50, 1, 1), -24);
        Check.is("-22 ahead of it", as(2, 50, 1, 64), -22);
        Check.is("66 needs two", as(2, 66, 0, 0), -23);
        Check.is("67 needs none", as(2, 67, 0, 4), 4);
        Check.is("51 of one of two numbers", as(2, 51, 0, 0), 0);
        Check.is("16 still", as(2, 50, 1, 1), -23);
        Check.is("51", as(2, 51, 4, 0), 0);
        Check.is("15", as(2, 66, 0, 0), -23);
        Check.is("16 again", as(2, 50, 1, 1), 0);
    }

    /** "51 .. -9 if there is none, as in all that follows"; "54 .. -29 if it is no file on the disc, -22 if .. 0 to 80". */
    private static void filesAndPositions() {
        x = Check.driven(0);
        row("50", 0, 50, 1, 7);
        row("66", 12, 66, 0, 0);
        for (int f : new int[] {-1, 3, 5, 6, Integer.MIN_VALUE, Integer.MAX_VALUE}) {
            row("51 of " + f, -9, 51, f, 0);
            row("52 of " + f, 0, 52, f, 2);
            Check.is("why", x.register(0, 0, 2), -9);
            row("53 of " + f, -9, 53, f, 5);
            row("54 of " + f, -9, 54, f, 99);
            row("67 of " + f, -9, 67, f, 9);
        }
        row("54 of a pipe", -29, 54, 1, 99);
        for (int at : new int[] {-1, 81, Integer.MIN_VALUE, Integer.MAX_VALUE}) {
            row("54 to " + at, -22, 54, 0, at);
        }
        row("54 to 80", 0, 54, 0, 80);
        row("beyond the cell 79", -27, 53, 0, 5);
        row("at the end", 0, 52, 0, 2);
        Check.is("R(c)", x.register(0, 0, 2), 0);
        row("54 to 79", 0, 54, 0, 79);
        row("the cell 79", 1, 53, 0, 5);
        Check.is("size", x.inode(0, 1, 4), 80);
        row("the position is behind it", -27, 53, 0, 5);
        row("54 to 0", 0, 54, 0, 0);
        row("0 where nothing was written", 0, 52, 0, 2);
        Check.is("R(c)", x.register(0, 0, 2), 1);
        row("54", 0, 54, 0, 79);
        row("the last cell", 5, 52, 0, 2);
        row("the end", 0, 52, 0, 2);
        Check.is("R(c)", x.register(0, 0, 2), 0);
        // With 16 at its size, wherever the position is.
        row("50", 3, 50, 1, 19);
        row("at 80", -27, 53, 3, 6);
        row("65", 0, 65, 1, 79);
        row("54", 0, 54, 3, 5);
        row("at 79", 1, 53, 3, 6);
        Check.is("there", x.content(0, 1, 79), 6);
        row("the position is behind it", 0, 52, 3, 2);
        Check.is("R(c)", x.register(0, 0, 2), 0);
        // -1: not open for that.
        row("50", 4, 50, 1, 1);
        row("53 of one to read", -1, 53, 4, 5);
        row("50", 5, 50, 1, 2);
        row("52 of one to write", 0, 52, 5, 2);
        Check.is("why", x.register(0, 0, 2), -1);
        row("-1 ahead of -27", -1, 53, 4, 5);
    }

    /** "67 the file V(b) is also the file V(c), 0 to 5 (-22, behind -9); what was that is closed, if it is another one". */
    private static void doubles() {
        x = Check.driven(0);
        row("50", 0, 50, 1, 7);
        row("50", 1, 50, 2, 7);
        for (int c : new int[] {-1, 6, Integer.MIN_VALUE, Integer.MAX_VALUE}) {
            row("67 to " + c, -22, 67, 0, c);
            row("-9 ahead of that", -9, 67, 3, c);
        }
        row("67 to itself", 0, 67, 0, 0);
        row("it is open still", 1, 53, 0, 5);
        row("67 to 5", 5, 67, 0, 5);
        row("the same position", 1, 53, 5, 6);
        Check.is("size", x.inode(0, 1, 4), 2);
        row("67 over the same", 5, 67, 0, 5);
        row("67 over another one", 1, 67, 0, 1);
        row("56", 0, 56, 2, 0);
        x.step(60);
        Check.is("that was closed", x.inode(0, 2, 0), 0);
        row("51", 0, 51, 0, 0);
        row("51", 0, 51, 1, 0);
        row("the last one is open", 1, 53, 5, 7);
        Check.is("size", x.inode(0, 1, 4), 3);
    }

    /** "56 .. -39 if it is a directory with entries (bad ones are none); the entry becomes 0 .. one name less." */
    private static void takingAway() {
        x = Check.driven(0);
        row("55", 0, 55, 1, 0);
        row("58", 0, 58, Check.path(1, 2), 0);
        row("with an entry", -39, 56, 1, 0);
        row("56", 0, 56, Check.path(1, 2), 0);
        Check.is("the size stays", x.inode(0, 1, 4), 1);
        row("without entries", 0, 56, 1, 0);
        row("no entry", -2, 56, 1, 0);
        x.step(60);
        Check.is("given up", x.inode(0, 1, 0), 0);
        // Given up one a tick, the lowest first, as long as the log is free; what is used is not.
        x = Check.driven(0);
        for (int n = 1; n <= 3; n++) {
            row("50", n - 1, 50, n, 7);
        }
        for (int n = 1; n <= 3; n++) {
            row("56", 0, 56, n, 0);
        }
        row("64", 0, 64, 0, 0);
        x.step(60);
        Check.is("used", x.inode(0, 1, 0) + x.inode(0, 2, 0) + x.inode(0, 3, 0), 3);
        x.does(0, 0, 22, 0, 0, 0);
        int[][] due = {{0, 1, 1}, {0, 0, 1}, {0, 0, 0}};
        for (int[] d : due) {
            x.step(1);
            for (int n = 0; n < 3; n++) {
                Check.is("one a tick: " + (n + 1), x.inode(0, n + 1, 0), d[n]);
            }
        }
    }

    /** "An inode is used by open files, mapped pages, and as the directory of a process, also of one that ended". */
    private static void usedInodes() {
        x = Check.driven(0);
        row("55", 0, 55, 1, 0);
        row("20", 2, 20, 0, 0);
        Check.is("63", as(1, 63, 1, 0), 0);
        row("56", 0, 56, 1, 0);
        row("64", 0, 64, 0, 0);
        x.step(60);
        Check.is("of a process", x.inode(0, 1, 0), 2);
        x.does(0, 1, 22, 0, 0, 0);
        x.step(10);
        Check.is("of one that ended", x.inode(0, 1, 0), 2);
        row("23", 2000, 23, 0, 0);
        x.step(1);
        Check.is("as long as it is there", x.inode(0, 1, 0), 0);
    }

    /** "60 R(a) is, for what V(b) leads to, by V(c): 0 the inode, 1 to 5 its cells 0 to 4, 6 how many blocks". */
    private static void tellings() {
        x = Check.driven(0);
        row("50", 0, 50, 3, 7);
        row("54", 0, 54, 0, 16);
        row("53", 1, 53, 0, 5);
        int[][] due = {{-1, -22}, {0, 1}, {1, 1}, {2, 420}, {3, 0}, {4, 1}, {5, 17}, {6, 2}, {7, -22},
            {Integer.MIN_VALUE, -22}, {Integer.MAX_VALUE, -22}};
        for (int[] d : due) {
            row("60 by " + d[0], d[1], 60, 3, d[0]);
            row("V(c) first", d[1] == -22 ? -22 : -2, 60, 4, d[0]);
        }
        // "61 its mode becomes V(c), 0 to 511 (-22)"; "62 .. V(c) / 10, 0 to 4, and V(c) % 10, 0 to 2 (-22)".
        for (int mode : new int[] {-1, 512, Integer.MIN_VALUE, Integer.MAX_VALUE}) {
            row("61 with " + mode, -22, 61, 3, mode);
            row("V(c) first", -22, 61, 4, mode);
        }
        row("61", 0, 61, 3, 0);
        row("61", 0, 61, 3, 511);
        row("61", -2, 61, 4, 511);
        for (int v : new int[] {-1, -10, 3, 9, 13, 43, 50, 52, 100, Integer.MIN_VALUE, Integer.MAX_VALUE}) {
            row("62 with " + v, -22, 62, 3, v);
            row("V(c) first", -22, 62, 4, v);
        }
        for (int v : new int[] {0, 2, 10, 12, 20, 31, 40, 42, 11, 30, 1}) {
            row("62 with " + v, 0, 62, 3, v);
            Check.is("owner and group", x.inode(0, 1, 2), v);
            Check.text("it counts for the new owner", Check.faults(x), "");
        }
        row("62", -2, 62, 4, 42);
        // By user 0 alone; 61 by its owner or user 0.
        x = Check.driven(0, 1, 4);
        row("61", 0, 61, 0, 511);
        Check.is("50", as(1, 50, 1, 7), 0);
        Check.is("62 by its owner", as(1, 62, 1, 11), -1);
        Check.is("the walk first", as(1, 62, 2, 11), -2);
        Check.is("61 by its owner", as(1, 61, 1, 511), 0);
        Check.is("61 by its group", as(2, 61, 1, 511), -1);
        Check.is("61 by user 0", as(0, 61, 1, 511), 0);
    }

    /** "65 the file with the path V(b) becomes V(c) cells long, 0 to 80 (-22; -21 for a directory, -1 ..)". */
    private static void lengths() {
        for (int length : new int[] {-1, 81, Integer.MIN_VALUE, Integer.MAX_VALUE}) {
            x = Check.driven(0);
            row("65 with " + length, -22, 65, 0, length);
            row("V(c) first", -22, 65, 5, length);
        }
        row("a directory", -21, 65, 0, 0);
        row("none", -2, 65, 5, 80);
        // Blocks 0 to 3, with the one with numbers: 5 blocks; which are left by each length.
        int[][] due = {{32, 5}, {31, 5}, {25, 5}, {24, 4}, {17, 4}, {16, 2}, {9, 2}, {8, 1}, {1, 1}, {0, 0}, {80, 5},
            {33, 5}};
        for (int[] d : due) {
            x = Check.driven(0);
            row("50", 0, 50, 1, 7);
            for (int c = 0; c < 32; c += 4) {
                row("54", 0, 54, 0, c);
                row("53", 1, 53, 0, 100 + c);
                if (c % 8 == 4) {
                    row("54", 0, 54, 0, c + 3);
                    row("53", 1, 53, 0, 100 + c + 3);
                }
            }
            row("65 with " + d[0], 0, 65, 1, d[0]);
            row("blocks", d[1], 60, 1, 6);
            row("size", d[0], 60, 1, 5);
            row("65 with 80", 0, 65, 1, 80);
            for (int c = 0; c < 32; c++) {
                boolean was = c % 4 == 0 || c % 8 == 7;
                Check.is("cell " + c + " behind " + d[0], x.content(0, 1, c), was && c < d[0] ? 100 + c : 0);
            }
        }
    }

    /** "66 makes a pipe for 6 cells .. -24, -23 as in 50, for two, also if there are 6 pipes". */
    private static void pipes() {
        x = Check.driven(0, 0, 0, 0);
        for (int f = 0; f < 5; f++) {
            row("50", f, 50, 1, 7);
        }
        row("one number is left", -24, 66, 0, 0);
        row("51", 0, 51, 1, 0);
        row("the two lowest", 15, 66, 0, 0);
        row("none is left", -24, 66, 0, 0);
        row("51", 0, 51, 1, 0);
        row("51", 0, 51, 5, 0);
        // 6 pipes: the seventh is refused, though there are numbers and open files.
        for (int f = 0; f < 6; f++) {
            x = f == 0 ? Check.driven(0, 0, 0) : x;
            Check.is("66", as(f / 3, 66, 0, 0), f % 3 == 0 ? 1 : f % 3 == 1 ? 23 : 45);
        }
        Check.is("the seventh", as(2, 66, 0, 0), -23);
        Check.is("51", as(1, 51, 1, 0), 0);
        Check.is("there is the other end", as(2, 66, 0, 0), -23);
        Check.is("51", as(1, 51, 0, 0), 0);
        Check.is("the lowest free one", as(2, 66, 0, 0), 1);
        x.tell(0, 2, 52, 1, 0, 2);
        x.step(1);
        Check.text("its number", Check.waits(x, 0, 2), "p3");
        // 16 open files: with 15 there is no room for two, with 14 there is.
        x = Check.driven(0, 0, 0);
        for (int f = 0; f < 15; f++) {
            Check.is("50", as(f / 6, 50, 1, 7), f % 6);
        }
        Check.is("15 are open", as(2, 66, 0, 0), -23);
        Check.is("51", as(0, 51, 0, 0), 0);
        Check.is("14 are open", as(2, 66, 0, 0), 34);
    }

    /** "Reading from a pipe .. it is the end if nobody can write to it; .. if it has 6, the thread waits ('p')." */
    private static void pipeCells() {
        x = Check.driven(0);
        row("66", 1, 66, 0, 0);
        row("20", 2, 20, 0, 0);
        for (int i = 0; i < 6; i++) {
            row("53", 1, 53, 1, 30 + i);
        }
        x.tell(0, 0, 53, 1, 1, 36);
        x.step(1);
        Check.text("it has 6", Check.waits(x, 0, 0), "p0");
        Check.is("52", as(1, 52, 0, 2), 30);
        x.step(1);
        Check.text("it came", Check.waits(x, 0, 0), "h0");
        for (int i = 1; i < 7; i++) {
            Check.is("52", as(1, 52, 0, 2), 30 + i);
        }
        x.tell(0, 0, 52, 1, 0, 2);
        x.step(1);
        Check.text("it has none", Check.waits(x, 0, 0), "p0");
        Check.is("51", as(1, 51, 1, 0), 0);
        x.step(2);
        Check.text("it can write itself", Check.waits(x, 0, 0), "p0");
        Check.is("27", as(1, 27, 1, 3), 0);
        Check.is("nobody can read or write but 2", as(1, 66, 0, 0), 12);
        // -32 as nobody can read; the signal 6.
        x = Check.driven(0);
        row("66", 1, 66, 0, 0);
        row("53", 1, 53, 1, 9);
        row("51", 0, 51, 0, 0);
        row("29", 0, 29, 64, 0);
        row("nobody can read", -32, 53, 1, 9);
        Check.is("the signal 6", x.process(0, 1, 'w'), 64);
        x = Check.driven(0);
        row("66", 1, 66, 0, 0);
        row("53", 1, 53, 1, 9);
        row("51", 0, 51, 1, 0);
        row("what is in it comes first", 9, 52, 0, 2);
        row("then the end", 0, 52, 0, 2);
        Check.is("R(c)", x.register(0, 0, 2), 0);
        // A pipe that nobody has any more is a free one, without cells.
        row("66", 12, 66, 0, 0);
        row("53", 1, 53, 2, 9);
        row("51", 0, 51, 1, 0);
        row("51", 0, 51, 0, 0);
        row("51", 0, 51, 2, 0);
        row("66", 1, 66, 0, 0);
        row("66", 23, 66, 0, 0);
        x.tell(0, 0, 52, 1, 2, 2);
        x.step(1);
        Check.text("it has none", Check.waits(x, 0, 0), "p1");
        // The first open file of a machine, as the number 5, is a file: just one number is left beside four others.
        x = Check.driven(0);
        row("50", 0, 50, 1, 7);
        row("67", 5, 67, 0, 5);
        row("51", 0, 51, 0, 0);
        for (int f = 0; f < 4; f++) {
            row("50", f, 50, 1, 7);
        }
        row("one number is left", -24, 66, 0, 0);
        // A process that ends closes all of its files: 16 can be opened again.
        row("50", 4, 50, 1, 7);
        x.spawn(0, 0, -1);
        x.spawn(0, 0, -1);
        x.does(0, 0, 22, 0, 0, 0);
        x.spawn(0, 0, -1);
        for (int f = 0; f < 16; f++) {
            Check.is("50", as(f / 6, 50, 1, 7), f % 6);
        }
        Check.is("the 17th", as(2, 50, 1, 7), -23);
    }

    /** "70 R(a) is the cell V(c), from 0, of the directory V(b), 0 beyond its size; -22 below 0, -20 if it is none". */
    private static void directoryCells() {
        x = Check.driven(0);
        row("50", 0, 50, 1, 7);
        row("58", 0, 58, 2, 0);
        int[][] due = {{-1, -22}, {0, 101}, {1, 202}, {2, 0}, {79, 0}, {80, 0}, {Integer.MAX_VALUE, 0},
            {Integer.MIN_VALUE, -22}};
        for (int[] d : due) {
            row("70 of " + d[0], d[1], 70, 0, d[0]);
            row("of a file", d[1] == -22 ? -22 : -20, 70, 1, d[0]);
            row("of none", d[1] == -22 ? -22 : -2, 70, 9, d[0]);
        }
    }

    /** "59 .. -22 if it is a directory and that place is it, or is somewhere in it; .. -21 .., -20 .., -39". */
    private static void renames() {
        x = Check.driven(0);
        row("55", 0, 55, 1, 0);
        row("55", 0, 55, Check.path(1, 2), 0);
        row("55", 0, 55, Check.path(1, 2, 3), 0);
        row("55", 0, 55, 4, 0);
        row("50", 0, 50, 5, 7);
        row("into itself", -22, 59, 1, Check.path(1, 9));
        row("into itself, there or not", -22, 59, 1, Check.path(1, 2));
        row("two below", -22, 59, 1, Check.path(1, 2, 9));
        row("three below", -22, 59, 1, Check.path(1, 2, 3, 9));
        row("beside it", 0, 59, 1, 6);
        row("back", 0, 59, 6, 1);
        row("a file may go anywhere", 0, 59, 5, Check.path(1, 2, 3, 9));
        row("and back", 0, 59, Check.path(1, 2, 3, 9), 5);
        row("a file over a directory", -21, 59, 5, 4);
        row("a directory over a file", -20, 59, 4, 5);
        row("over one with entries", -39, 59, 4, 1);
        row("over itself", 0, 59, 4, 4);
        Check.is("nothing", x.find(0, 4) > 0, true);
        row("over an empty one", 0, 59, Check.path(1, 2, 3), 4);
        row("upwards", 0, 59, Check.path(1, 2), 7);
        Check.is("isSound", x.isSound(), true);
        x.step(100);
        Check.is("inodes: the root, 1, 2, 3 and the file", x.block(0, 0, 2), 1 + 2 + 4 + 8 + 32);
    }

    /** "its quotas are 40 blocks and 20 inodes on each machine at first": the root may be user 1's, too. */
    private static void quotasAtFirst() {
        x = Check.driven(0, 1);
        row("61", 0, 61, 0, 511);
        row("62", 0, 62, 0, 11);
        // 19 inodes with that of the root are 20; the 21st is above the quota, not just more than there are.
        for (int n = 1; n <= 19; n++) {
            Check.is("50", as(1, 50, n, 7), 0);
            as(1, 51, 0, 0);
        }
        Check.is("the 21st of user 1", as(1, 50, 20, 7), -69);
        Check.is("the 21st of user 0", as(0, 50, 20, 7), -28);
        // The root has 3 blocks, as it has 19 entries, with the one for numbers 4: 36 are left.
        row("blocks of the root", 4, 60, 0, 6);
        int taken = 4;
        for (int f = 1; f <= 4 && taken < 41; f++) {
            Check.is("50", as(1, 50, f, 7), 0);
            for (int b = 0; b < 10 && taken < 41; b++) {
                taken += b == 2 ? 2 : 1;
                as(1, 54, 0, 8 * b);
                Check.is("block " + taken, as(1, 53, 0, 5), taken <= 40 ? 1 : -69);
            }
            as(1, 51, 0, 0);
        }
        // The last try needed two blocks, of which there is just one.
        Check.is("41 were tried", taken, 41);
        Check.is("50 by user 0", as(0, 50, 19, 7), 0);
        Check.is("the 40th, of user 1", as(0, 53, 0, 5), 1);
        as(0, 54, 0, 8);
        Check.is("the 41st of user 1", as(0, 53, 0, 5), -69);
        row("62", 0, 62, 19, 0);
        Check.is("for user 0 there is no quota", as(0, 53, 0, 5), -28);
        // What is freed is free again, in both cells of the map.
        for (int f : new int[] {1, 2, 3, 4, 19}) {
            row("65", 0, 65, f, 0);
        }
        row("64", 0, 64, 0, 0);
        x.step(80);
        Check.is("the four of the root", x.block(0, 0, 0), 1 + 2 + 4 + 8);
        Check.is("none above 59", x.block(0, 0, 1), 0);
        Check.is("of user 1", x.block(0, 0, 4), 1904);
        Check.is("of user 0", x.block(0, 0, 3), 100);
        Check.text("no fault", Check.faults(x), "");
    }

    /** "u has the group u % 3": "it has the kind told, the owner, the group of that user, no blocks, the size 0". */
    private static void newInodes() {
        users();
        for (int u = 0; u < 5; u++) {
            Check.is("50", as(u, 50, u + 1, 7), 0);
            Check.is("55", as(u, 55, u + 11, 0), 0);
            Check.is("58", as(u, 58, u + 21, 7), 0);
            int[][] due = {{1, 420, 11 * u - u / 3 * 3, 1, 0, 0, 0, 0}, {2, 493, 11 * u - u / 3 * 3, 1, 0, 0, 0, 0},
                {3, 511, 11 * u - u / 3 * 3, 1, 7, 0, 0, 0}};
            for (int k = 0; k < 3; k++) {
                for (int c = 0; c < 8; c++) {
                    Check.is("inode of user " + u, x.inode(0, 3 * u + k + 1, c), due[k][c]);
                }
            }
        }
        Check.text("no fault", Check.faults(x), "");
        // "62 .. what it has counts for the new owner then", from user 0, too.
        row("54", 0, 54, 0, 16);
        row("53", 1, 53, 0, 5);
        row("62", 0, 62, 1, 31);
        Check.text("no fault", Check.faults(x), "");
        row("64", 0, 64, 0, 0);
        x.step(80);
        Check.is("of user 0", x.block(0, 0, 3), 300 + 2);
        Check.is("of user 3", x.block(0, 0, 6), 400 + 2);
        // Cells that a spoiled disc left in an inode that is not used.
        x = new KernelWorks();
        x.crash(0);
        for (int c = 1; c < 8; c++) {
            x.spoil(0, 11, c, 30 + c);
        }
        x.boot(0);
        x.spawn(0, 0, -1);
        row("50", 0, 50, 1, 7);
        for (int c = 4; c < 8; c++) {
            Check.is("no blocks, the size 0", x.inode(0, 1, c), 0);
        }
    }

    /** "and its cells become 0": of a block that was used before. */
    private static void blocksUsedAgain() {
        x = Check.driven(0);
        row("50", 0, 50, 1, 7);
        for (int c = 0; c < 24; c++) {
            row("54", 0, 54, 0, c);
            row("53", 1, 53, 0, 900 + c);
        }
        row("65", 0, 65, 1, 0);
        row("55", 0, 55, 2, 0);
        row("58", 0, 58, Check.path(2, 3), 0);
        for (int b = 0; b < 3; b++) {
            row("54", 0, 54, 0, 8 * b + 3);
            row("53", 1, 53, 0, 5);
        }
        for (int c = 0; c < 20; c++) {
            Check.is("cell " + c, x.content(0, 1, c), c % 8 == 3 ? 5 : 0);
        }
        Check.is("one entry", x.inode(0, 2, 4), 1);
        row("70 behind it", 0, 70, 2, 1);
        Check.text("no fault", Check.faults(x), "");
    }

    /** "the one with numbers is free if it has none": with a hole ahead of what is freed. */
    private static void numbersWithHoles() {
        for (int length : new int[] {80, 25, 24, 23, 17}) {
            x = Check.driven(0);
            row("50", 0, 50, 1, 7);
            // The blocks 3 and 9; there is no block 2.
            row("54", 0, 54, 0, 24);
            row("53", 1, 53, 0, 5);
            row("54", 0, 54, 0, 79);
            row("53", 1, 53, 0, 6);
            row("blocks", 3, 60, 1, 6);
            row("65", 0, 65, 1, length);
            row("blocks behind " + length, length == 80 ? 3 : length == 25 ? 2 : 0, 60, 1, 6);
            Check.text("no fault", Check.faults(x), "");
        }
    }

    /** "those in no transaction that is not installed": a ninth block is held as that is installed. */
    private static void nineBlocks() {
        x = Check.driven(0);
        for (int f = 0; f < 6; f++) {
            row("50", f, 50, 1, 7);
        }
        for (int b = 0; b < 9; b++) {
            row("54", 0, 54, 0, 8 * b);
            row("53", 1, 53, 0, b + 1);
        }
        row("64", 0, 64, 0, 0);
        for (int f = 0; f < 6; f++) {
            row("54", 0, 54, f, 8 * f + 8);
        }
        x.step(112 - x.time() % 16);
        // The blocks 1 to 8 of the file are held. All of them are changed in one transaction.
        for (int f = 0; f < 6; f++) {
            row("53", 1, 53, f, 100 + f);
        }
        for (int f = 0; f < 2; f++) {
            row("54", 0, 54, f, 8 * f + 56);
            row("53", 1, 53, f, 200 + f);
        }
        Check.is("8 blocks", x.log(0, 'o'), 8);
        String held = heldText();
        Check.is("8 are held", held.split(" ").length, 8);
        Check.is("the first block is not", x.held(0, 31), false);
        row("54", 0, 54, 5, 0);
        x.tell(0, 0, 52, 1, 5, 2);
        // It comes, is the only one in no transaction, is held no more, and is asked for anew: as the arm is just there
        // (a block "that is not less than where the arm is"), the log, at lower blocks, has to wait.
        for (int i = 0; i < 80; i++) {
            x.step(1);
            Check.text("a ninth is not held", heldText(), held);
            Check.text("it waits for it", Check.waits(x, 0, 0).replace("ready", "b31"), "b31");
        }
        Check.is("closed", x.log(0, 'p'), 1);
        Check.is("the arm", x.disc(0, 'a'), 31);
        // Another thread ends that: all is written then.
        x.spawn(0, 0, -1);
        x.does(0, 1, 27, 1, 1, 3);
        x.step(80);
        Check.is("installed", x.log(0, 'p'), 0);
        Check.is("isSound", x.isSound(), true);
    }

    /** "one that becomes free is not [held]": it makes room for others. "not read or written .. for the longest time". */
    private static void roomForBlocks() {
        x = Check.driven(0);
        for (int f = 1; f <= 3; f++) {
            row("50", f - 1, 50, f, 7);
            for (int b = 0; b < 2; b++) {
                row("54", 0, 54, f - 1, 8 * b);
                row("53", 1, 53, f - 1, 10 * f + b);
            }
        }
        row("50", 3, 50, 4, 7);
        row("53", 1, 53, 3, 40);
        row("54", 0, 54, 3, 8);
        row("53", 1, 53, 3, 41);
        row("64", 0, 64, 0, 0);
        x.step(80);
        Check.text("8 are held", heldText(), "31 32 33 34 35 36 37 38");
        // Two are free again: two new ones hinder none of the six.
        row("65", 0, 65, 2, 0);
        row("54", 0, 54, 0, 16);
        row("53", 1, 53, 0, 12);
        Check.text("7, and the new one", heldText(), "31 32 34 35 36 37 38");
        row("54", 0, 54, 1, 0);
        row("53", 1, 53, 1, 22);
        x.step(80);
        Check.is("8 are held", heldText().split(" ").length, 8);
        Check.is("the first is held", x.held(0, 31), true);
        // Written is used: the block of the file 3 is not the oldest behind a write, that of the file 1 is.
        row("54", 0, 54, 0, 0);
        row("53", 1, 53, 0, 99);
        x.step(80);
        row("54", 0, 54, 1, 8);
        row("a new one", 1, 53, 1, 23);
        Check.is("written last", x.held(0, 31), true);
        Check.is("not used for the longest time", x.held(0, 32), false);
    }

    /** The same with blocks on both sides of 60, where the map goes on in another cell; 65 uses its last block. */
    private static void roomForTheLastBlocks() {
        x = new KernelWorks();
        x.crash(0);
        int[][] inodes = {{2, 493, 0, 1, 2, 30, 0, 0}, {1, 420, 0, 1, 64, 56, 57, 31}, {1, 420, 0, 1, 64, 33, 34, 32}};
        for (int i = 0; i < 3; i++) {
            for (int c = 0; c < 8; c++) {
                x.spoil(0, 10 + i, c, inodes[i][c]);
                if (c < 6) {
                    x.spoil(0, 31, c, 58 + c);
                    x.spoil(0, 32, c, 35 + c);
                }
            }
            x.spoil(0, 30, i, i < 2 ? 101 + 101 * i : 0);
        }
        x.boot(0);
        x.spawn(0, 0, -1);
        row("50", 0, 50, 1, 7);
        row("50", 1, 50, 2, 7);
        for (int b = 0; b < 8; b++) {
            row("54", 0, 54, 0, 8 * b);
            row("52", 0, 52, 0, 2);
        }
        Check.text("8 are held", heldText(), "56 57 58 59 60 61 62 63");
        row("65", 0, 65, 1, 0);
        for (int b = 0; b < 8; b++) {
            row("54", 0, 54, 1, 8 * b);
            row("52", 0, 52, 1, 2);
        }
        Check.text("8 others are held", heldText(), "33 34 35 36 37 38 39 40");
        Check.is("each was read once", x.account(0, 0, 'r'), 16);
        x.step(80);
        // 33 is the oldest. 65 writes to 40, which was read last, and to 33, once that is the last block.
        row("65 into the last block", 0, 65, 2, 60);
        row("54", 0, 54, 0, 0);
        row("a new one", 1, 53, 0, 9);
        Check.is("33 is held no more", x.held(0, 33), false);
        x.step(80);
        row("65 into the second block", 0, 65, 2, 12);
        row("35 to 40 are free, 34 and the new one are held", 2, 60, 2, 6);
        x.step(80);
        for (int b = 1; b < 7; b++) {
            row("54", 0, 54, 0, 8 * b);
            row("53", 1, 53, 0, b);
        }
        Check.is("8 are held", heldText().split(" ").length, 8);
        x.step(80);
        row("65 into the second block", 0, 65, 2, 11);
        row("54", 0, 54, 0, 72);
        row("a new one", 1, 53, 0, 9);
        Check.is("34 was used by 65", x.held(0, 34), true);
        Check.is("the first block of the file 1 was not", x.held(0, x.inode(0, 1, 5)), false);
    }

    /** "(if that block is there, it is to be written)": it is asked of the disc, if it is not held. */
    private static void lengthsOfBlocksThatAreNotHeld() {
        for (int length : new int[] {0, 4, 8, 11, 12, 13, 14, 16}) {
            x = Check.driven(0);
            row("50", 0, 50, 1, 7);
            for (int c = 0; c < 13; c++) {
                row("54", 0, 54, 0, c);
                row("53", 1, 53, 0, 50 + c);
            }
            row("64", 0, 64, 0, 0);
            x.step(80);
            x.crash(0);
            x.boot(0);
            x.spawn(0, 0, -1);
            long reads = x.account(0, 0, 'r');
            x.tell(0, 0, 65, 1, 1, length);
            x.step(1);
            // 13 is its length, and behind it there is nothing that would become 0.
            boolean waits = length == 4 || length == 11 || length == 12;
            Check.text("65 with " + length, Check.waits(x, 0, 0), waits ? length == 4 ? "b31" : "b32" : "h0");
            Check.is("account r", x.account(0, 0, 'r') - reads, waits ? 1 : 0);
            Check.is("nothing is done", x.inode(0, 1, 4), waits ? 13 : length);
            x.step(20);
            Check.is("done", x.inode(0, 1, 4), length);
            row("65 back", 0, 65, 1, 16);
            for (int c = 0; c < 16; c++) {
                Check.is("cell " + c, x.content(0, 1, c), c < length && c < 13 ? 50 + c : 0);
            }
        }
    }

    /** "find .. for user 0": who may all. "-1 if it is open for that" of the first open file of a machine. */
    private static void userZero() {
        users();
        Check.is("55", as(1, 55, 1, 0), 0);
        Check.is("58", as(1, 58, Check.path(1, 2), 0), 0);
        Check.is("61", as(1, 61, 1, 0), 0);
        Check.is("user 1 may not", as(1, 60, Check.path(1, 2), 0), -1);
        Check.is("find", x.find(0, Check.path(1, 2)), 0);
        x = Check.driven(0);
        row("50 to write alone", 0, 50, 1, 6);
        row("52", 0, 52, 0, 2);
        Check.is("why", x.register(0, 0, 2), -1);
        row("51", 0, 51, 0, 0);
        row("50 to read alone", 0, 50, 1, 1);
        row("53", -1, 53, 0, 5);
        row("52", 0, 52, 0, 2);
        Check.is("the end", x.register(0, 0, 2), 0);
        // 67 over the first open file of a machine closes it.
        row("50", 1, 50, 2, 7);
        row("67", 0, 67, 1, 0);
        row("56", 0, 56, 1, 0);
        x.step(60);
        Check.is("given up", x.inode(0, 1, 0), 0);
    }

    /** Entries behind the first block of a directory, and behind the second one: of 56, 57, 59 and of walks. */
    private static void longDirectories() {
        x = Check.driven(0);
        row("50", 0, 50, 26, 7);
        for (int n = 1; n <= 19; n++) {
            row("57", 0, 57, 26, n);
        }
        Check.is("size", x.inode(0, 0, 4), 20);
        Check.is("names", x.inode(0, 1, 3), 20);
        for (int n : new int[] {7, 8, 15, 16, 19}) {
            row("70", 100 + n, 70, 0, n);
            row("60", 1, 60, n, 0);
            row("59", 0, 59, n, 20);
            Check.is("the entry is 0", x.content(0, 0, n), 0);
            row("59 back", 0, 59, 20, n);
            row("58", 0, 58, 21, 0);
            row("59 over it", 0, 59, 21, n);
            row("56", 0, 56, n, 0);
            row("57", 0, 57, 26, n);
        }
        Check.is("names", x.inode(0, 1, 3), 20);
        Check.text("no fault", Check.faults(x), "");
    }

    public static void main(String[] args) {
        discAtFirst();
        groupsAndRights();
        kindsOfRights();
        paths();
        walks();
        softLinks();
        entries();
        quotas();
        inodes();
        allBlocks();
        heldBlocks();
        opening();
        filesAndPositions();
        doubles();
        takingAway();
        usedInodes();
        tellings();
        lengths();
        pipes();
        pipeCells();
        directoryCells();
        renames();
        quotasAtFirst();
        newInodes();
        blocksUsedAgain();
        numbersWithHoles();
        nineBlocks();
        roomForBlocks();
        roomForTheLastBlocks();
        lengthsOfBlocksThatAreNotHeld();
        userZero();
        longDirectories();
        Check.end("BoundsFilesTest");
    }
}
