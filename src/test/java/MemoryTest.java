/** Promises 12 and 13, with part 3 of the terms: pages and frames. */
public final class MemoryTest {
    private static void frames() {
        KernelWorks x = new KernelWorks();
        x.spawn(0, 1, -1);
        x.spawn(0, 2, -1);
        Check.is("page", x.page(0, 1, 0), 'n');
        Check.fails("pageAt", Check.NONE, () -> x.pageAt(0, 1, 0));
        Check.is("free frame", x.frame(0, 0, 'a'), 0);
        Check.is("free frame", x.frame(0, 0, 'b'), -1);
        Check.fails("meanAge", ArithmeticException.class, () -> x.meanAge(0));
        for (int g = 0; g < 8; g++) {
            x.does(0, 0, 11, 100 + g, 8 * g, 0);
            Check.is("page", x.page(0, 1, g), 'f');
            Check.is("pageAt", x.pageAt(0, 1, g), g);
            Check.is("new frame", x.frame(0, g, 'a'), 128);
            Check.is("new frame", x.frame(0, g, 'p'), 1);
            Check.is("new frame", x.frame(0, g, 'c'), 0);
            Check.is("new frame", x.frame(0, g, 'g'), 0);
        }
        Check.is("aged at 8", x.frame(0, 0, 'a'), 192);
        Check.is("meanAge", x.meanAge(0), (7 * 192 + 128) / 8.0);
        Check.is("cell", x.cell(0, 1, 8), 101);
        Check.is("cell", x.cell(0, 1, 9), 0);
        Check.is("pages in frames", x.process(0, 1, 'f'), 8);
        // The frame 7 has the least age: it goes to the block 70, which takes 2 and 70 / 10 ticks.
        x.tell(0, 1, 11, 55, 0, 0);
        x.step(1);
        Check.is("waits", x.waits(0, 1, 's'), 'r');
        Check.is("waits", x.waits(0, 1, 'n'), 0);
        Check.is("page", x.page(0, 1, 7), 'o');
        Check.is("frame", x.frame(0, 7, 'g'), 2);
        Check.is("frame", x.frame(0, 7, 'b'), 70);
        Check.is("cell", x.cell(0, 1, 56), 107);
        Check.is("pages in frames", x.process(0, 1, 'f'), 7);
        x.step(9);
        Check.is("page", x.page(0, 1, 7), 'o');
        x.step(1);
        Check.is("page", x.page(0, 1, 7), 's');
        Check.is("pageAt", x.pageAt(0, 1, 7), 70);
        Check.is("cell", x.cell(0, 1, 56), 107);
        Check.is("block", x.block(0, 70, 0), 107);
        Check.is("page", x.page(0, 2, 0), 'f');
        Check.is("pageAt", x.pageAt(0, 2, 0), 7);
        Check.is("frame", x.frame(0, 7, 'a'), 128);
        Check.is("aged at 16", x.frame(0, 0, 'a'), 96);
        Check.is("account f", x.account(0, 1, 'f'), 14);
        Check.is("account f", x.account(0, 2, 'f'), 0);
        // The page 0 has to go for the page 7, which comes then.
        x.tell(0, 0, 10, 3, 56, 0);
        x.step(1);
        Check.is("frame", x.frame(0, 0, 'g'), 2);
        Check.is("frame", x.frame(0, 0, 'b'), 71);
        x.step(3);
        Check.is("page", x.page(0, 1, 0), 's');
        Check.is("page", x.page(0, 1, 7), 'c');
        Check.is("frame", x.frame(0, 0, 'g'), 1);
        Check.is("waits", x.waits(0, 0, 's'), 'd');
        Check.is("waits", x.waits(0, 0, 'n'), 0);
        x.step(3);
        Check.is("register", x.register(0, 0, 3), 107);
        Check.is("time", x.time(), 26);
        Check.is("clean", x.frame(0, 0, 'c'), 1);
        Check.is("block", x.frame(0, 0, 'b'), 70);
        Check.is("age", x.frame(0, 0, 'a'), 128);
        Check.is("account r", x.account(0, 1, 'r'), 1);
        Check.text("events", Check.events(x, 2), "o7 o0 f0");
        x.does(0, 0, 11, 9, 57, 0);
        Check.is("not clean any more", x.frame(0, 0, 'c'), 0);
        Check.is("no block", x.frame(0, 0, 'b'), -1);
        // A new process shares the frame till it stores.
        Check.is("20", x.does(0, 1, 20, 0, 0, 0), 3);
        Check.is("pages in the frame", x.frame(0, 7, 'p'), 2);
        Check.is("10", x.does(0, 2, 10, 1, 0, 0), 55);
        Check.is("pages in the frame", x.frame(0, 7, 'p'), 2);
        x.does(0, 2, 11, 66, 0, 0);
        Check.is("cell", x.cell(0, 2, 0), 55);
        Check.is("cell", x.cell(0, 3, 0), 66);
        Check.is("pages in the frame", x.frame(0, 7, 'p'), 1);
        x.does(0, 2, 22, 0, 0, 0);
        Check.is("isSound", x.isSound(), true);
        Check.fails("page", Check.ARGUMENT, () -> x.page(3, 1, 0));
        Check.fails("page", Check.INDEX, () -> x.page(0, 4, 0));
        Check.fails("page", Check.INDEX, () -> x.page(0, 1, 8));
        Check.fails("page", Check.INDEX, () -> x.page(0, 1, -1));
        Check.fails("pageAt", Check.ARGUMENT, () -> x.pageAt(-1, 1, 0));
        Check.fails("pageAt", Check.INDEX, () -> x.pageAt(0, 1, 8));
        Check.fails("cell", Check.ARGUMENT, () -> x.cell(-1, 1, 0));
        Check.fails("cell", Check.INDEX, () -> x.cell(0, 1, 64));
        Check.fails("cell", Check.INDEX, () -> x.cell(0, 9, 0));
        Check.fails("frame", Check.ARGUMENT, () -> x.frame(0, 0, 'x'));
        Check.fails("frame", Check.ARGUMENT, () -> x.frame(3, 0, 'a'));
        Check.fails("frame", Check.INDEX, () -> x.frame(0, 8, 'a'));
        x.crash(0);
        Check.fails("page", Check.UNSUPPORTED, () -> x.page(0, 1, 0));
        Check.fails("pageAt", Check.UNSUPPORTED, () -> x.pageAt(0, 1, 0));
        Check.fails("cell", Check.UNSUPPORTED, () -> x.cell(0, 1, 0));
        Check.fails("frame", Check.UNSUPPORTED, () -> x.frame(0, 0, 'a'));
        Check.fails("meanAge", Check.UNSUPPORTED, () -> x.meanAge(0));
        Check.fails("meanAge", Check.ARGUMENT, () -> x.meanAge(3));
    }

    private static void cleanFrames() {
        KernelWorks x = new KernelWorks();
        x.spawn(0, 1, -1);
        x.spawn(0, 2, -1);
        for (int g = 0; g < 8; g++) {
            x.does(0, 0, 11, 100 + g, 8 * g, 0);
        }
        x.does(0, 1, 11, 55, 0, 0);
        int swapped = 0;
        while (x.page(0, 1, swapped) != 's') {
            swapped++;
        }
        Check.is("10", x.does(0, 0, 10, 3, 8 * swapped, 0), 100 + swapped);
        int f = x.pageAt(0, 1, swapped);
        int b = x.frame(0, f, 'b');
        Check.is("clean", x.frame(0, f, 'c'), 1);
        // All ages come to 0, and the lowest frame goes: it is the clean one, which is taken at once.
        x.step(100);
        for (int i = 0; i < 8; i++) {
            Check.is("age", x.frame(0, i, 'a'), 0);
        }
        Check.is("the clean one is the lowest", f, 0);
        int time = x.time();
        int events = x.events();
        x.does(0, 1, 11, 56, 8, 0);
        Check.is("at once", x.time(), time + 1);
        Check.is("one event", x.events(), events + 1);
        Check.is("the frame goes", x.event(events, 's'), 'o');
        Check.is("its number", x.event(events, 'n'), 0);
        Check.is("page", x.page(0, 1, swapped), 's');
        Check.is("pageAt", x.pageAt(0, 1, swapped), b);
        Check.is("taken", x.pageAt(0, 2, 1), 0);
        // Pages that share a block come together; what is stored then is for one alone.
        KernelWorks y = new KernelWorks();
        y.spawn(0, 0, -1);
        y.does(0, 0, 11, 77, 0, 0);
        Check.is("20", y.does(0, 0, 20, 0, 0, 0), 2);
        y.spawn(0, 0, -1);
        y.step(80);
        for (int g = 0; g < 8; g++) {
            y.does(0, 2, 11, g, 8 * g, 0);
        }
        Check.is("page", y.page(0, 1, 0), 's');
        Check.is("page", y.page(0, 2, 0), 's');
        Check.is("the same block", y.pageAt(0, 1, 0), y.pageAt(0, 2, 0));
        Check.is("10", y.does(0, 1, 10, 5, 0, 0), 77);
        Check.is("both came", y.page(0, 1, 0), 'f');
        Check.is("pages in the frame", y.frame(0, y.pageAt(0, 1, 0), 'p'), 2);
        y.does(0, 1, 11, 78, 0, 0);
        Check.is("cell", y.cell(0, 1, 0), 77);
        Check.is("cell", y.cell(0, 2, 0), 78);
        Check.is("isSound", y.isSound(), true);
    }

    private static void faults() {
        KernelWorks x = new KernelWorks();
        for (int address : new int[] {64, -1, Integer.MIN_VALUE, 1000 * 1000}) {
            x.spawn(0, 0, -1);
            Check.is("store at " + address, x.does(0, 0, 11, 1, address, 0), -1001);
            x.spawn(0, 0, -1);
            Check.is("load from " + address, x.does(0, 0, 10, 1, address, 0), -1001);
            Check.is("ended by 8", x.event(x.events() - 1, 'n'), 1136);
        }
        x.spawn(0, 0, -1);
        Check.is("35", x.does(0, 0, 35, 0, 2, 0), 8);
        x.does(0, 0, 11, 50, 0, 0);
        Check.is("a load takes a page, too", x.does(0, 0, 10, 1, 63, 0), 0);
        Check.is("page", x.page(0, 1, 7), 'f');
        Check.is("over the limit", x.does(0, 0, 11, 50, 8, 0), -1001);
        Check.is("frames are free", x.frame(0, 0, 'p'), 0);
        // 8 frames and 12 blocks hold 20 pages; the 21st ends the process that needs it.
        KernelWorks y = new KernelWorks();
        for (int p = 0; p < 3; p++) {
            y.spawn(0, 0, -1);
        }
        for (int g = 0; g < 20; g++) {
            y.does(0, g / 8, 11, 500 + g, g % 8 * 8, 0);
        }
        for (int g = 0; g < 20; g++) {
            Check.is("cell", y.cell(0, 1 + g / 8, g % 8 * 8), 500 + g);
        }
        Check.is("isSound", y.isSound(), true);
        Check.is("the 21st", y.does(0, 2, 11, 1, 32, 0), -1001);
        Check.is("ended with 137", y.event(y.events() - 1, 'n'), 3137);
    }

    private static void mapped() {
        KernelWorks x = new KernelWorks();
        x.spawn(0, 0, -1);
        Check.is("68", x.does(0, 0, 68, 1, 0, 20), -9);
        Check.is("50", x.does(0, 0, 50, 1, 1, 7), 0);
        Check.is("50", x.does(0, 0, 50, 1, 1, 1), 1);
        Check.is("66", x.does(0, 0, 66, 1, 0, 0), 23);
        Check.is("68", x.does(0, 0, 68, 1, 0, 80), -22);
        Check.is("68", x.does(0, 0, 68, 1, 9, -1), -22);
        Check.is("68", x.does(0, 0, 68, 1, 2, 20), -9);
        Check.is("68", x.does(0, 0, 68, 1, 1, 20), -1);
        Check.is("68", x.does(0, 0, 68, 1, 0, 21), 0);
        Check.is("68", x.does(0, 0, 68, 1, 0, 20), -16);
        Check.is("68", x.does(0, 0, 68, 1, 0, 79), 0);
        Check.is("page", x.page(0, 1, 2), 'm');
        Check.is("pageAt", x.pageAt(0, 1, 2), 101);
        Check.is("pageAt", x.pageAt(0, 1, 7), 109);
        Check.is("beyond the end", x.does(0, 0, 10, 3, 16, 0), 0);
        x.does(0, 0, 11, 42, 18, 0);
        Check.is("size", x.inode(0, 1, 4), 11);
        Check.is("content", x.content(0, 1, 10), 42);
        Check.is("content", x.content(0, 1, 9), 0);
        Check.is("cell", x.cell(0, 1, 18), 42);
        Check.is("10", x.does(0, 0, 10, 3, 18, 0), 42);
        Check.is("account w", x.account(0, 0, 'w'), 1);
        x.does(0, 0, 51, 1, 0, 0);
        x.does(0, 0, 51, 1, 1, 0);
        x.does(0, 0, 11, 43, 63, 0);
        Check.is("also when it was closed", x.inode(0, 1, 4), 80);
        Check.is("blocks", x.does(0, 0, 60, 4, 1, 6), 3);
        // The file stays without a name as long as it is mapped.
        Check.is("56", x.does(0, 0, 56, 4, 1, 0), 0);
        x.step(3);
        Check.is("kind", x.inode(0, 1, 0), 1);
        Check.is("69", x.does(0, 0, 69, 4, 3, 0), -22);
        Check.is("69", x.does(0, 0, 69, 4, 8, 0), -22);
        Check.is("69", x.does(0, 0, 69, 4, 2, 0), 0);
        Check.is("69", x.does(0, 0, 69, 4, 7, 0), 0);
        Check.is("page", x.page(0, 1, 2), 'n');
        Check.is("the log is not free", x.log(0, 'p') > 0, true);
        x.step(60);
        Check.is("given up", x.inode(0, 1, 0), 0);
        // A page that cannot be written: the signal 8.
        KernelWorks y = new KernelWorks();
        y.user(1, 0, 1, 0, 20);
        y.spawn(0, 0, -1);
        y.spawn(0, 1, -1);
        y.does(0, 0, 61, 1, 0, 511);
        Check.is("50", y.does(0, 1, 50, 1, 1, 7), 0);
        Check.is("53", y.does(0, 1, 53, 1, 0, 1), -69);
        Check.is("68", y.does(0, 1, 68, 1, 0, 0), 0);
        Check.is("11", y.does(0, 1, 11, 1, 0, 0), -1001);
        Check.is("ended by 8", y.event(y.events() - 1, 'n'), 2136);
    }

    public static void main(String[] args) {
        frames();
        cleanFrames();
        faults();
        mapped();
        Check.end("MemoryTest");
    }
}
