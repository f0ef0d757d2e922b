/** Parts 3 and 4 of the terms, sentence by sentence where it names a bound: pages, frames, locks, queues, calls. */
public final class BoundsMemoryTest {
    private static KernelWorks x;

    private static int store(int thread, int value, int address) {
        return x.does(0, thread, 11, value, address, 0);
    }

    private static int load(int thread, int address) {
        return x.does(0, thread, 10, 1, address, 0);
    }

    /** "An address is 0 to 63: page address / 8, cell address % 8. Other addresses: the signal 8; R(a) stays ..." */
    private static void addresses() {
        x = Check.driven(0);
        for (int address : new int[] {0, 7, 8, 56, 63}) {
            store(0, 500 + address, address);
            Check.is("page of " + address, x.page(0, 1, address / 8), 'f');
            Check.is("cell " + address, x.cell(0, 1, address), 500 + address);
            Check.is("10 of " + address, load(0, address), 500 + address);
        }
        Check.is("pages", x.process(0, 1, 'f'), 3);
        for (int address : new int[] {-1, 64, Integer.MIN_VALUE, Integer.MAX_VALUE, 999}) {
            for (int op : new int[] {10, 11}) {
                x = Check.driven(0);
                x.does(0, 0, 29, 0, 256, 0);
                x.does(0, 0, 1, 1, 5, 0);
                x.does(0, 0, op, 1, address, 0);
                Check.is("R(a) stays", x.register(0, 0, 1), 5);
                Check.is("the signal 8 by " + op + " of " + address, x.process(0, 1, 'w'), 256);
                Check.is("nothing is stored", x.process(0, 1, 'f'), 0);
                Check.text("the row is done", Check.waits(x, 0, 0), "h0");
                x.does(0, 0, 29, 0, 0, 0);
                Check.is("that ends it", x.event(x.events() - 1, 'n'), 1136);
            }
        }
    }

    /** "if the process has as many pages that are not 'n' or 'm' as its limit, the signal 8". */
    private static void limits() {
        for (int limit = 0; limit <= 2; limit++) {
            x = Check.driven(0);
            x.does(0, 0, 35, 0, limit, 0);
            x.does(0, 0, 29, 0, 256, 0);
            for (int page = 0; page < limit; page++) {
                store(0, 1, 8 * page);
            }
            Check.is("up to " + limit, x.process(0, 1, 'w'), 0);
            Check.is("pages", x.process(0, 1, 'f'), limit);
            store(0, 1, 8 * limit);
            Check.is("one more than " + limit, x.process(0, 1, 'w'), 256);
            Check.is("pages", x.process(0, 1, 'f'), limit);
            if (limit > 0) {
                store(0, 9, 1);
                Check.is("those that are there can be used", x.cell(0, 1, 1), 9);
            }
        }
        // A limit below what is there already; mapped pages do not count.
        x = Check.driven(0);
        x.does(0, 0, 29, 0, 256, 0);
        x.does(0, 0, 50, 0, 1, 7);
        Check.is("68", x.does(0, 0, 68, 1, 0, 70), 0);
        store(0, 1, 0);
        store(0, 1, 8);
        x.does(0, 0, 35, 0, 1, 0);
        store(0, 2, 9);
        Check.is("cell", x.cell(0, 1, 9), 2);
        store(0, 1, 16);
        Check.is("above the limit", x.process(0, 1, 'w'), 256);
        x.does(0, 0, 35, 0, 3, 0);
        store(0, 1, 16);
        Check.is("the mapped one does not count", x.page(0, 1, 2), 'f');
        store(0, 1, 24);
        Check.is("three are there", x.page(0, 1, 3), 'n');
    }

    /** "A machine has 8 frames of 8 cells .. A needed frame is the lowest free one." */
    private static void frames() {
        x = Check.driven(0, 0);
        for (int page = 0; page < 8; page++) {
            store(0, 1, 8 * page);
            Check.is("the lowest free one", x.pageAt(0, 1, page), page);
        }
        Check.fails("no frame 8", Check.INDEX, () -> x.frame(0, 8, 'a'));
        x.does(0, 0, 20, 1, 0, 0);
        x.does(0, 0, 22, 0, 0, 0);
        for (int f = 0; f < 8; f++) {
            Check.is("the other one has them still", x.frame(0, f, 'p'), 1);
        }
        x = Check.driven(0, 0, 0);
        for (int page = 0; page < 3; page++) {
            store(page, 1, 0);
        }
        x.does(0, 1, 22, 0, 0, 0);
        Check.is("a frame without pages is free", x.frame(0, 1, 'a'), 0);
        store(2, 1, 8);
        Check.is("the lowest free one", x.pageAt(0, 3, 1), 1);
        store(2, 1, 16);
        Check.is("behind that", x.pageAt(0, 3, 2), 3);
    }

    /** "of those whose pages neither come nor go .. the one with the least age, of several the lowest". */
    private static void leastAge() {
        x = Check.driven(0, 0);
        for (int page = 0; page < 8; page++) {
            store(0, 1, 8 * page);
        }
        // All were marked in the first 8 ticks but the last, which was taken at 8 and is marked at 16.
        Check.is("age", x.frame(0, 0, 'a'), 192);
        Check.is("age", x.frame(0, 7, 'a'), 128);
        x.step(8);
        Check.is("halved", x.frame(0, 0, 'a'), 96);
        Check.is("halved, and 128 more", x.frame(0, 7, 'a'), 192);
        load(0, 24);
        x.step(7);
        Check.is("halved", x.frame(0, 0, 'a'), 48);
        Check.is("marked", x.frame(0, 3, 'a'), 48 + 128);
        Check.is("halved", x.frame(0, 7, 'a'), 96);
        x.tell(0, 1, 11, 5, 0, 0);
        x.step(1);
        Check.is("the lowest of several with the least age goes", x.frame(0, 0, 'g'), 2);
        Check.text("it waits for any frame", Check.waits(x, 0, 1), "r0");
        Check.is("its block is the lowest", x.frame(0, 0, 'b'), 70);
        // One that goes is not chosen again.
        x.tell(0, 0, 10, 1, 0, 0);
        x.step(1);
        Check.text("a page that goes", Check.waits(x, 0, 0), "d0");
        x.step(20);
        // "as one has come or gone, those that wait for it, ahead of these": it takes the frame that is free again.
        Check.is("it came back", x.register(0, 0, 1), 1);
        Check.is("ahead of who waits for any frame", x.pageAt(0, 1, 0), 0);
        Check.is("for whom the next one goes", x.frame(0, 1, 'b') >= 70 || x.pageAt(0, 2, 0) == 1, true);
    }

    /** "every 8 ticks the age of each frame that is not free is halved, cut, 128 more if it is marked". */
    private static void ages() {
        x = Check.driven(0);
        store(0, 1, 0);
        int[] marked = {192, 224, 240, 248, 252, 254, 255, 255};
        int age = 128;
        for (int i = 0; i < marked.length; i++) {
            load(0, 0);
            x.step(8 - x.time() % 8);
            age = age / 2 + 128;
            Check.is("marked", x.frame(0, 0, 'a'), marked[i]);
            Check.is("marked", age, marked[i]);
        }
        int[] not = {127, 63, 31, 15, 7, 3, 1, 0, 0};
        for (int due : not) {
            x.step(8);
            Check.is("not marked", x.frame(0, 0, 'a'), due);
        }
        Check.is("a free one", x.frame(0, 1, 'a'), 0);
        Check.is("meanAge", x.meanAge(0), 0.0);
    }

    /** "the lowest block for swapping, 70 to 81, .. (without one, the process that needs a frame ends with 137)". */
    private static void swapBlocks() {
        x = Check.driven(0, 0, 0);
        for (int page = 0; page < 20; page++) {
            store(page / 8, 600 + page, page % 8 * 8);
        }
        boolean[] used = new boolean[82];
        int count = 0;
        for (int page = 0; page < 20; page++) {
            if (x.page(0, 1 + page / 8, page % 8) == 's') {
                used[x.pageAt(0, 1 + page / 8, page % 8)] = true;
                count++;
            }
        }
        Check.is("12 are in blocks", count, 12);
        for (int b = 70; b <= 81; b++) {
            Check.is("block " + b, used[b], true);
        }
        int before = x.events();
        Check.is("the 21st page", store(2, 1, 32), -1001);
        Check.text("ended with 137", Check.events(x, before), "e3137");
        Check.is("its blocks are free", store(0, 7, 0), 0);
        Check.is("the others are there", x.cell(0, 2, 0), 608);
        Check.is("isSound", x.isSound(), true);
    }

    /** "Several pages can be in one frame .. 'f', to be stored into, in a frame with several pages: another frame". */
    private static void sharedFrames() {
        x = Check.driven(0);
        store(0, 5, 3);
        Check.is("20", x.does(0, 0, 20, 1, 0, 0), 2);
        Check.is("20", x.does(0, 0, 20, 1, 0, 0), 3);
        Check.is("three pages", x.frame(0, 0, 'p'), 3);
        load(1, 3);
        Check.is("loading changes nothing", x.frame(0, 0, 'p'), 3);
        store(1, 6, 4);
        Check.is("for this page alone", x.pageAt(0, 2, 0), 1);
        Check.is("two are left", x.frame(0, 0, 'p'), 2);
        Check.is("the same cells", x.cell(0, 2, 3), 5);
        Check.is("not in the other", x.cell(0, 1, 4), 0);
        store(0, 7, 4);
        Check.is("one is left", x.frame(0, 0, 'p'), 1);
        Check.is("in another frame", x.pageAt(0, 1, 0), 2);
        store(2, 8, 4);
        Check.is("alone it stays", x.pageAt(0, 3, 0), 0);
        Check.is("cell", x.cell(0, 1, 4), 7);
        Check.is("cell", x.cell(0, 2, 4), 6);
        Check.is("cell", x.cell(0, 3, 4), 8);
        // The frame that is to be copied does not go for that, though it has the least age.
        x = Check.driven(0);
        store(0, 5, 0);
        for (int page = 1; page < 8; page++) {
            store(0, page, 8 * page);
        }
        x.does(0, 0, 20, 1, 0, 0);
        x.step(80);
        Check.is("all ages are 0", x.meanAge(0), 0.0);
        x.tell(0, 0, 11, 9, 1, 0);
        x.step(1);
        Check.is("not that of the page", x.frame(0, 0, 'g'), 0);
        Check.is("the next one goes", x.frame(0, 1, 'g'), 2);
        Check.is("both its pages go", x.page(0, 2, 1), 'o');
        x.step(20);
        Check.is("copied", x.cell(0, 1, 1), 9);
        Check.is("the other has it as it was", x.cell(0, 2, 1), 0);
        Check.is("both are in the same block", x.pageAt(0, 1, 1), x.pageAt(0, 2, 1));
    }

    /** "A frame that is left without pages is free, unless it comes or goes, then it is when that is done; blocks too". */
    private static void leftWithoutPages() {
        x = Check.driven(0, 0, 0);
        for (int page = 0; page < 8; page++) {
            store(0, 1, 8 * page);
        }
        x.tell(0, 1, 11, 5, 0, 0);
        x.step(1);
        int f = 0;
        while (x.frame(0, f, 'g') != 2) {
            f++;
        }
        x.does(0, 2, 27, 1, 1, 3);
        Check.is("it goes still", x.frame(0, f, 'g'), 2);
        Check.is("without pages", x.frame(0, f, 'p'), 0);
        Check.is("the others are free", x.frame(0, f == 0 ? 1 : 0, 'a'), 0);
        Check.is("isSound", x.isSound(), true);
        x.step(20);
        Check.is("it is free", x.frame(0, f, 'b'), -1);
        Check.is("and so is what waited", x.page(0, 2, 0), 'f');
        // A block without pages is the lowest one again.
        for (int page = 1; page < 8; page++) {
            store(1, 1, 8 * page);
        }
        x.does(0, 2, 11, 5, 0, 0);
        int b = 0;
        for (int page = 0; page < 8; page++) {
            b = x.page(0, 2, page) == 's' ? x.pageAt(0, 2, page) : b;
        }
        Check.is("block 70", b, 70);
    }

    /** "'f' a page is asked for, 'o' one goes (the frame)": a clean one, too; none goes if one is free, or no block is. */
    private static void framesThatGo() {
        x = Check.driven(0, 0);
        for (int page = 0; page < 8; page++) {
            load(0, 8 * page);
        }
        Check.text("none goes as long as one is free", Check.events(x, 0), "p1 p2");
        x.step(80);
        // One that has to be written: 'o' is told as it begins to go, once, however often the row is done anew.
        int before = x.events();
        x.tell(0, 1, 10, 0, 0, 0);
        x.step(1);
        Check.is("it goes", x.frame(0, 0, 'g'), 2);
        Check.text("told as it begins", Check.events(x, before), "o0");
        x.step(20);
        Check.is("it is taken", x.pageAt(0, 2, 0), 0);
        Check.text("told once", Check.events(x, before), "o0");
        // A page that comes back where another one goes: 'o', and 'f' as that is written.
        x.step(80);
        before = x.events();
        load(0, 0);
        int f = x.pageAt(0, 1, 0);
        Check.text("one goes, then one comes", Check.events(x, before), "o" + f + " f" + f);
        Check.is("later", x.event(before + 1, 't') > x.event(before, 't'), true);
        Check.is("clean", x.frame(0, f, 'c'), 1);
        // The clean one is the lowest of those with the least age: it goes in the tick in which the page is asked for.
        x.step(80);
        Check.is("the lowest", f, 0);
        before = x.events();
        x.tell(0, 1, 10, 0, 0, 0);
        x.step(1);
        Check.text("the clean one goes, ahead of what comes", Check.events(x, before), "o0 f0");
        Check.is("at once", x.event(before, 't'), x.event(before + 1, 't'));
        Check.is("page", x.page(0, 1, 0), 's');
        x.step(20);
        // Into a free frame a page comes, and none goes.
        x.spawn(0, 0, -1);
        x.does(0, 2, 27, 1, 2, 3);
        Check.is("frame 0 is free", x.frame(0, 0, 'p'), 0);
        before = x.events();
        load(0, 0);
        Check.text("none goes", Check.events(x, before), "f0");
    }

    /** "When a page has come, the frame is clean and has the block .. one that is stored into is not clean any more". */
    private static void cleanFrames() {
        x = Check.driven(0, 0);
        for (int page = 0; page < 8; page++) {
            store(0, 10 + page, 8 * page);
        }
        store(1, 1, 0);
        int page = 0;
        while (x.page(0, 1, page) != 's') {
            page++;
        }
        int block = x.pageAt(0, 1, page);
        Check.is("10", load(0, 8 * page), 10 + page);
        int f = x.pageAt(0, 1, page);
        Check.is("clean", x.frame(0, f, 'c'), 1);
        Check.is("its block", x.frame(0, f, 'b'), block);
        Check.is("age", x.frame(0, f, 'a') >= 128, true);
        load(0, 8 * page + 7);
        Check.is("clean still", x.frame(0, f, 'c'), 1);
        store(0, 0, 8 * page + 7);
        Check.is("also if nothing changes", x.frame(0, f, 'c'), 0);
        Check.is("no block", x.frame(0, f, 'b'), -1);
        for (int n = 0; n < 8; n++) {
            Check.is("others are not clean", x.frame(0, n, 'c'), 0);
        }
    }

    /** "V(c) 10 times a page and the number of a block of the file, 0 to 9; -22 if V(c) is not so, -9 .., -1 .., -16". */
    private static void mapping() {
        x = Check.driven(0);
        x.does(0, 0, 50, 1, 1, 7);
        for (int c : new int[] {-1, 80, Integer.MIN_VALUE, Integer.MAX_VALUE}) {
            Check.is("68 with " + c, x.does(0, 0, 68, 1, 0, c), -22);
            Check.is("ahead of the file", x.does(0, 0, 68, 1, 5, c), -22);
        }
        for (int f : new int[] {-1, 1, 5, 6}) {
            Check.is("68 of the file " + f, x.does(0, 0, 68, 1, f, 0), -9);
        }
        x.does(0, 0, 50, 1, 1, 1);
        x.does(0, 0, 50, 1, 1, 2);
        Check.is("to read alone", x.does(0, 0, 68, 1, 1, 0), -1);
        Check.is("to write alone", x.does(0, 0, 68, 1, 2, 0), -1);
        Check.is("a pipe", x.does(0, 0, 66, 1, 0, 0), 34);
        Check.is("68 of a pipe", x.does(0, 0, 68, 1, 3, 0), -9);
        store(0, 1, 0);
        Check.is("not n", x.does(0, 0, 68, 1, 0, 0), -16);
        Check.is("-1 ahead of that", x.does(0, 0, 68, 1, 1, 0), -1);
        Check.is("page 1, block 0", x.does(0, 0, 68, 1, 0, 10), 0);
        Check.is("page 7, block 9", x.does(0, 0, 68, 1, 0, 79), 0);
        Check.is("not n", x.does(0, 0, 68, 1, 0, 79), -16);
        Check.is("at", x.pageAt(0, 1, 1), 100);
        Check.is("at", x.pageAt(0, 1, 7), 109);
        // "at 8 times the block and the cell .. (0 beyond its end)".
        Check.is("beyond its end", load(0, 63), 0);
        store(0, 3, 8);
        Check.is("size", x.inode(0, 1, 4), 1);
        store(0, 4, 15);
        Check.is("size", x.inode(0, 1, 4), 8);
        Check.row(x, 0, 0, 11, 5, 63, 0);
        Check.is("size", x.inode(0, 1, 4), 80);
        Check.is("content", x.content(0, 1, 79), 5);
        Check.is("10", load(0, 63), 5);
        // "69 R(a) is 0, and the page V(b), if it is mapped, is 'n' again; otherwise -22."
        for (int page : new int[] {-1, 0, 2, 8, Integer.MIN_VALUE, Integer.MAX_VALUE}) {
            Check.is("69 of " + page, x.does(0, 0, 69, 1, page, 0), -22);
        }
        Check.is("69", x.does(0, 0, 69, 1, 1, 0), 0);
        Check.is("69", x.does(0, 0, 69, 1, 1, 0), -22);
        Check.is("69", x.does(0, 0, 69, 1, 7, 0), 0);
        Check.is("page", x.page(0, 1, 7), 'n');
    }

    /** "40 the thread has the lock V(b): .. -35 if it has it already; 41 .. -1 if it did not have it". */
    private static void locks() {
        x = Check.driven(0, 0);
        for (int op : new int[] {40, 41}) {
            for (int l : new int[] {-1, 6, Integer.MIN_VALUE, Integer.MAX_VALUE}) {
                Check.is(op + " of " + l, x.does(0, 0, op, 1, l, 0), -22);
            }
        }
        for (int l : new int[] {0, 5}) {
            Check.is("41", x.does(0, 0, 41, 1, l, 0), -1);
            Check.is("40", x.does(0, 0, 40, 1, l, 0), 0);
            Check.is("40", x.does(0, 0, 40, 1, l, 0), -35);
            Check.is("41 of another one", x.does(0, 1, 41, 1, l, 0), -1);
            Check.is("it has it", x.lock(0, l, 'h'), 0);
            Check.is("41", x.does(0, 0, 41, 1, l, 0), 0);
            Check.is("41", x.does(0, 0, 41, 1, l, 0), -1);
            Check.is("nobody has it", x.lock(0, l, 'h'), -1);
        }
        Check.is("each is one of its own", x.does(0, 0, 40, 1, 4, 0), 0);
        x.does(0, 0, 22, 0, 0, 0);
        for (int l = 0; l < 6; l++) {
            Check.is("broken " + l, x.lock(0, l, 'b'), l == 4 ? 1 : 0);
        }
        Check.is("1 if it is broken", x.does(0, 1, 40, 1, 4, 0), 1);
        Check.is("which it is no more", x.lock(0, 4, 'b'), 0);
        // Who waits for something else of that number does not wait for the lock.
        x.spawn(0, 0, -1);
        x.tell(0, 0, 43, 1, 3, 0);
        x.step(1);
        Check.text("it waits for the queue 3", Check.waits(x, 0, 0), "q3");
        Check.is("nobody waits for the lock 3", x.lock(0, 3, 'w'), 0);
        x.spawn(0, 0, -1);
        x.tell(0, 2, 40, 1, 4, 0);
        x.step(1);
        Check.is("one waits for the lock 4", x.lock(0, 4, 'w'), 1);
        x.does(0, 1, 27, 1, 3, 3);
        Check.is("41", x.does(0, 1, 41, 1, 4, 0), 0);
        Check.is("0", x.does(0, 1, 40, 1, 4, 0), 0);
    }

    /** "42 V(c) comes to the end of the queue V(b): R(a) is 0; if it has 3, it waits ('q'). 43 .. without one it waits". */
    private static void queues() {
        x = Check.driven(0, 0);
        for (int op : new int[] {42, 43}) {
            for (int q : new int[] {-1, 4, Integer.MIN_VALUE, Integer.MAX_VALUE}) {
                Check.is(op + " of " + q, x.does(0, 0, op, 1, q, 7), -22);
            }
        }
        for (int i = 0; i < 3; i++) {
            Check.is("42", x.does(0, 0, 42, 1, 0, 20 + i), 0);
        }
        x.tell(0, 0, 42, 1, 0, 23);
        x.step(1);
        Check.text("it has 3", Check.waits(x, 0, 0), "q0");
        Check.fails("no fourth", Check.NONE, () -> x.queue(0, 0, 3));
        Check.is("43", x.does(0, 1, 43, 1, 0, 0), 20);
        x.step(1);
        Check.text("it came", Check.waits(x, 0, 0), "h0");
        Check.is("the last", x.queue(0, 0, 2), 23);
        for (int i = 1; i < 4; i++) {
            Check.is("43", x.does(0, 1, 43, 1, 0, 0), 20 + i);
        }
        x.tell(0, 1, 43, 1, 0, 0);
        x.step(1);
        Check.text("without one", Check.waits(x, 0, 1), "q0");
        Check.is("the queue 3", x.does(0, 0, 42, 1, 3, 5), 0);
        Check.text("not of that queue", Check.waits(x, 0, 1), "q0");
        Check.is("42", x.does(0, 0, 42, 1, 0, 6), 0);
        x.step(1);
        Check.is("43", x.register(0, 1, 1), 6);
    }

    /** "44 the process V(b), not the own one, is called with V(c): -3 if it is that one, there is none, it is 0 or ..." */
    private static void calls() {
        x = Check.driven(0, 0, 0);
        for (int p : new int[] {-1, 0, 1, 4, 9, 10, Integer.MIN_VALUE, Integer.MAX_VALUE}) {
            Check.is("44 to " + p, x.does(0, 0, 44, 1, p, 7), -3);
        }
        Check.is("20", x.does(0, 1, 20, 1, 0, 0), 4);
        x.does(0, 3, 22, 0, 0, 0);
        Check.is("44 to one that ended", x.does(0, 0, 44, 1, 4, 7), -3);
        x.tell(0, 1, 45, 1, 0, 2);
        x.step(1);
        Check.text("without a call", Check.waits(x, 0, 1), "a2");
        x.tell(0, 0, 44, 1, 2, 7);
        x.tell(0, 2, 44, 1, 2, 8);
        x.step(3);
        Check.text("the first call", Check.waits(x, 0, 0), "m2");
        Check.is("45", x.register(0, 1, 1), 7);
        Check.is("who calls", x.register(0, 1, 2), 100);
        // "46 .. if it is one of the process V(b) / 100 whose call was taken by this process and is not answered".
        Check.is("not taken yet", x.does(0, 1, 46, 1, 302, 5), -3);
        for (int v : new int[] {-1, 0, 99, 101, 200, 114, 113, -100, Integer.MIN_VALUE, Integer.MAX_VALUE}) {
            Check.is("46 to " + v, x.does(0, 1, 46, 1, v, 5), -3);
        }
        Check.is("45", x.does(0, 1, 45, 1, 0, 2), 8);
        Check.is("46", x.does(0, 1, 46, 1, 302, 5), 0);
        Check.is("answered already", x.does(0, 1, 46, 1, 302, 6), -3);
        Check.is("46", x.does(0, 1, 46, 1, 100, 4), 0);
        x.step(3);
        Check.is("the answer", x.register(0, 0, 1), 4);
        Check.is("the answer", x.register(0, 2, 1), 5);
        Check.is("behind that there is none", x.does(0, 1, 46, 1, 100, 4), -3);
        // Who waits for an answer of a process that ends, or in a call to it, gets -3.
        x.tell(0, 0, 44, 1, 2, 7);
        x.tell(0, 2, 44, 1, 2, 8);
        x.step(2);
        x.does(0, 1, 45, 1, 0, 2);
        x.does(0, 1, 22, 0, 0, 0);
        x.step(2);
        Check.is("of one that was taken", x.register(0, 0, 1), -3);
        Check.is("of one that was not", x.register(0, 2, 1), -3);
        // A call of another process cannot be answered here.
        x = Check.driven(0, 0, 0);
        x.tell(0, 0, 44, 1, 2, 7);
        x.step(1);
        x.does(0, 1, 45, 1, 0, 2);
        Check.is("taken by another one", x.does(0, 2, 46, 1, 100, 4), -3);
        Check.is("46", x.does(0, 1, 46, 1, 100, 4), 0);
    }

    /** "the call comes behind those that wait at it": in their order, whatever the numbers of the threads. */
    private static void callsInTheirOrder() {
        x = Check.driven(0, 0, 0, 0);
        for (int t : new int[] {3, 0, 2}) {
            x.tell(0, t, 44, 1, 2, 10 + t);
            x.step(1);
        }
        for (int t : new int[] {3, 0, 2}) {
            Check.is("45", x.does(0, 1, 45, 1, 0, 2), 10 + t);
            Check.is("who calls", x.register(0, 1, 2), 100 * (t + 1) + t);
        }
    }

    /** "a call that is given up is gone." */
    private static void callsGivenUp() {
        x = Check.driven(0, 0, 0);
        x.tell(0, 0, 44, 1, 2, 7);
        x.tell(0, 2, 44, 1, 2, 8);
        x.step(2);
        x.does(0, 1, 27, 1, 1, 3);
        Check.is("the next call is the first", x.does(0, 1, 45, 1, 0, 2), 8);
        Check.is("who calls", x.register(0, 1, 2), 302);
        x.tell(0, 1, 45, 1, 0, 2);
        x.step(1);
        Check.text("there is none behind it", Check.waits(x, 0, 1), "a2");
    }

    /** "threads that wait for one another in a ring are in a deadlock." */
    private static void rings() {
        x = Check.driven(0, 0, 0, 0);
        for (int t = 0; t < 3; t++) {
            Check.is("40", x.does(0, t, 40, 1, t, 0), 0);
        }
        x.tell(0, 0, 40, 1, 1, 0);
        x.tell(0, 1, 40, 1, 2, 0);
        x.tell(0, 3, 40, 1, 0, 0);
        x.step(3);
        Check.is("a row is no ring", x.deadlocked(0), 0);
        Check.is("who waits", x.waits(0, 0, 't'), 1);
        x.tell(0, 2, 40, 1, 0, 0);
        x.step(1);
        Check.is("three in a ring, not who waits for it", x.deadlocked(0), 7);
    }

    /** Two in a ring, by a call and a lock: "one that calls for the lowest thread of the called process". */
    private static void smallRings() {
        x = Check.driven(0, 0);
        Check.is("40", x.does(0, 0, 40, 1, 5, 0), 0);
        x.tell(0, 0, 44, 1, 2, 7);
        x.step(1);
        Check.is("who calls waits", x.waits(0, 0, 't'), 1);
        Check.is("not yet", x.deadlocked(0), 0);
        x.tell(0, 1, 40, 1, 5, 0);
        x.step(1);
        Check.is("two", x.deadlocked(0), 3);
        // The lowest thread that did not end: 1 sleeps, so there is no ring by the thread 2.
        x = Check.driven(0);
        Check.program(x, 0, 24, 1, 3, 0, 33, 90, 0, 0, 22, 0, 0, 0, 40, 1, 5, 0);
        x.spawn(0, 0, 0);
        x.does(0, 0, 40, 1, 5, 0);
        x.tell(0, 0, 44, 1, 2, 7);
        x.step(8);
        Check.text("2 waits for the lock", Check.waits(x, 0, 2), "l5");
        Check.is("0 waits for 1", x.waits(0, 0, 't'), 1);
        Check.is("no ring", x.deadlocked(0), 0);
    }

    /** "'p' how many pages are in it, coming and going ones too"; all 8 cells go and come. */
    private static void comingAndGoing() {
        x = Check.driven(0, 0, 0);
        for (int cell = 0; cell < 8; cell++) {
            store(0, 700 + cell, 56 + cell);
        }
        x.does(0, 0, 20, 1, 0, 0);
        for (int page = 0; page < 7; page++) {
            store(0, page, 8 * page);
        }
        x.step(80);
        for (int page = 0; page < 7; page++) {
            load(0, 8 * page);
        }
        x.step(8);
        Check.is("the page 7 is shared", x.frame(0, 0, 'p'), 2);
        x.tell(0, 1, 11, 5, 0, 0);
        x.step(1);
        Check.is("it goes", x.frame(0, 0, 'g'), 2);
        Check.is("going ones too", x.frame(0, 0, 'p'), 2);
        Check.is("not in frames", x.process(0, 1, 'f'), 7);
        Check.is("its block", x.frame(0, 0, 'b'), 70);
        Check.is("not clean", x.frame(0, 0, 'c'), 0);
        x.step(14);
        Check.is("both are in the block", x.page(0, 1, 7) * 1000 + x.page(0, 4, 7), 's' * 1001);
        for (int cell = 0; cell < 8; cell++) {
            Check.is("in the block", x.block(0, 70, cell), 700 + cell);
            Check.is("cell", x.cell(0, 4, 56 + cell), 700 + cell);
        }
        x.does(0, 2, 27, 1, 2, 3);
        x.tell(0, 0, 10, 1, 63, 0);
        x.step(1);
        int f = x.pageAt(0, 1, 7);
        Check.is("it comes", x.frame(0, f, 'g'), 1);
        Check.is("coming ones too", x.frame(0, f, 'p'), 2);
        Check.is("the same frame", x.pageAt(0, 4, 7), f);
        Check.is("cell", x.cell(0, 1, 60), 704);
        Check.is("age", x.frame(0, f, 'a'), 128);
        x.step(14);
        Check.is("10", x.register(0, 0, 1), 707);
        for (int cell = 0; cell < 8; cell++) {
            Check.is("cell", x.cell(0, 1, 56 + cell), 700 + cell);
        }
        Check.is("clean", x.frame(0, f, 'c'), 1);
        Check.is("pages", x.frame(0, f, 'p'), 2);
        // A copy has all 8 cells.
        store(0, 1, 56);
        for (int cell = 1; cell < 8; cell++) {
            Check.is("copied", x.cell(0, 1, 56 + cell), 700 + cell);
        }
        Check.is("the other has it as it was", x.cell(0, 4, 56), 700);
    }

    /** "the lowest block .. that has no pages and belongs to no frame": not that of a clean frame, nor of one that comes. */
    private static void blocksOfFrames() {
        x = Check.driven(0, 0);
        for (int page = 0; page < 8; page++) {
            store(0, page, 8 * page);
        }
        store(1, 1, 0);
        int gone = 0;
        while (x.page(0, 1, gone) != 's') {
            gone++;
        }
        Check.is("block 70", x.pageAt(0, 1, gone), 70);
        load(0, 8 * gone);
        boolean[] seen = new boolean[82];
        for (int p = 1; p <= 2; p++) {
            for (int page = 0; page < 8; page++) {
                if (x.page(0, p, page) == 's') {
                    seen[x.pageAt(0, p, page)] = true;
                }
            }
        }
        Check.is("another page went to 71", seen[71], true);
        Check.is("70 belongs to the clean frame", x.frame(0, x.pageAt(0, 1, gone), 'b'), 70);
        store(1, 1, 16);
        boolean third = false;
        for (int p = 1; p <= 2; p++) {
            for (int page = 0; page < 8; page++) {
                third |= x.page(0, p, page) == 's' && x.pageAt(0, p, page) == 72;
            }
        }
        Check.is("neither 70 nor 71, but 72", third, true);
        Check.is("clean still", x.frame(0, x.pageAt(0, 1, gone), 'c'), 1);
        // Stored into, the frame has no block, and 70 is free: the next one goes there.
        store(0, 5, 8 * gone);
        store(1, 1, 8);
        boolean is = false;
        for (int p = 1; p <= 2; p++) {
            for (int page = 0; page < 8; page++) {
                is |= x.page(0, p, page) == 's' && x.pageAt(0, p, page) == 70;
            }
        }
        Check.is("70 again", is, true);
    }

    /** "'n': .. a frame is needed, its cells are 0": also where another page was before. */
    private static void cellsAreZero() {
        x = Check.driven(0, 0);
        for (int cell = 0; cell < 8; cell++) {
            store(0, 9, cell);
        }
        x.does(0, 0, 22, 0, 0, 0);
        Check.is("the frame is free", x.frame(0, 0, 'p'), 0);
        load(1, 0);
        Check.is("the same frame", x.pageAt(0, 2, 0), 0);
        for (int cell = 0; cell < 8; cell++) {
            Check.is("0", x.cell(0, 2, cell), 0);
        }
        Check.is("it is not clean", x.frame(0, 0, 'c'), 0);
        Check.is("it has no block", x.frame(0, 0, 'b'), -1);
    }

    /** "As a frame becomes free, threads that wait for any frame become ready"; a page that comes to nobody. */
    private static void freedFrames() {
        x = Check.driven(0, 0, 0);
        for (int page = 0; page < 8; page++) {
            store(0, 1, 8 * page);
        }
        x.tell(0, 1, 11, 5, 0, 0);
        x.step(1);
        Check.text("it waits for any frame", Check.waits(x, 0, 1), "r0");
        x.does(0, 2, 27, 1, 1, 3);
        x.step(1);
        Check.is("as the frames of another one are free", x.page(0, 2, 0), 'f');
        Check.text("done", Check.waits(x, 0, 1), "h0");
        // A process that is gone as its page comes: the frame and the block are free as that is done.
        x = Check.driven(0, 0, 0);
        for (int page = 0; page < 8; page++) {
            store(0, 1, 8 * page);
        }
        store(1, 1, 0);
        x.does(0, 1, 22, 0, 0, 0);
        int page = 0;
        while (x.page(0, 1, page) != 's') {
            page++;
        }
        x.tell(0, 0, 10, 1, 8 * page, 0);
        x.step(1);
        int f = x.pageAt(0, 1, page);
        Check.is("it comes", x.frame(0, f, 'g'), 1);
        x.does(0, 2, 27, 1, 1, 3);
        Check.is("it comes still", x.frame(0, f, 'g'), 1);
        Check.is("to nobody", x.frame(0, f, 'p'), 0);
        x.step(20);
        Check.is("free", x.frame(0, f, 'b') * 10 + x.frame(0, f, 'g'), -10);
        Check.is("free", x.frame(0, f, 'a'), 0);
        Check.is("isSound", x.isSound(), true);
        x.spawn(0, 0, -1);
        store(0, 1, 0);
        Check.is("the lowest free one", x.pageAt(0, 1, 0), 0);
    }

    /** "for m 100 times the inode plus the number of the block": of any inode; used as long as a page is mapped. */
    private static void mappedInodes() {
        x = Check.driven(0);
        for (int n = 1; n <= 12; n++) {
            Check.row(x, 58, n, 0);
        }
        Check.is("50", Check.row(x, 50, 13, 7), 0);
        Check.is("inode", x.find(0, 13), 13);
        Check.row(x, 54, 0, 24);
        Check.is("53", Check.row(x, 53, 0, 77), 1);
        for (int page : new int[] {0, 7}) {
            Check.is("68", Check.row(x, 68, 0, 10 * page + 3), 0);
            Check.is("pageAt", x.pageAt(0, 1, page), 1303);
            Check.is("cell", x.cell(0, 1, 8 * page), 77);
            Check.is("10", load(0, 8 * page), 77);
        }
        Check.row(x, 51, 0, 0);
        Check.row(x, 56, 13, 0);
        Check.is("69", Check.row(x, 69, 0, 0), 0);
        Check.row(x, 64, 0, 0);
        x.step(60);
        Check.is("used by the page 7", x.inode(0, 13, 0), 1);
        Check.is("68 of nothing", Check.row(x, 68, 0, 0), -9);
        Check.is("69", Check.row(x, 69, 7, 0), 0);
        x.step(60);
        Check.is("given up", x.inode(0, 13, 0), 0);
        // By the page 0 alone.
        Check.is("50", Check.row(x, 50, 13, 7), 0);
        Check.is("68", Check.row(x, 68, 0, 0), 0);
        Check.row(x, 51, 0, 0);
        Check.row(x, 56, 13, 0);
        x.step(60);
        Check.is("used by the page 0", x.inode(0, 13, 0), 1);
        x.does(0, 0, 22, 0, 0, 0);
        x.step(60);
        Check.is("given up", x.inode(0, 13, 0), 0);
    }

    /** What is gone as a machine falls down: locks, queues, pages. */
    private static void behindAStart() {
        x = Check.driven(0, 0);
        for (int l = 0; l < 6; l += 5) {
            x.does(0, 0, 40, 1, l, 0);
        }
        for (int i = 0; i < 3; i++) {
            x.does(0, 1, 42, 1, 0, i);
            x.does(0, 1, 42, 1, 3, i);
        }
        store(1, 5, 0);
        x.does(0, 0, 22, 0, 0, 0);
        Check.is("broken", x.lock(0, 0, 'b') + x.lock(0, 5, 'b'), 2);
        x.crash(0);
        x.boot(0);
        for (int l = 0; l < 6; l++) {
            Check.is("not broken", x.lock(0, l, 'b'), 0);
            Check.is("free", x.lock(0, l, 'h'), -1);
        }
        for (int q = 0; q < 4; q++) {
            int queue = q;
            Check.fails("empty", Check.NONE, () -> x.queue(0, queue, 0));
        }
        for (int f = 0; f < 8; f++) {
            Check.is("free", x.frame(0, f, 'a') * 100 + x.frame(0, f, 'b'), -1);
        }
        Check.is("no load", x.load(0, 0), 0);
    }

    public static void main(String[] args) {
        addresses();
        limits();
        frames();
        leastAge();
        ages();
        swapBlocks();
        sharedFrames();
        leftWithoutPages();
        framesThatGo();
        cleanFrames();
        mapping();
        locks();
        queues();
        calls();
        callsInTheirOrder();
        callsGivenUp();
        rings();
        smallRings();
        comingAndGoing();
        blocksOfFrames();
        cellsAreZero();
        freedFrames();
        mappedInodes();
        behindAStart();
        Check.end("BoundsMemoryTest");
    }
}
