import java.util.Random;

/** Files against a model of their cells: random writes, cuts, syncs, and falls of the machine at any tick. */
public final class ModelTest {
    private static final int FILES = 5;
    private static KernelWorks x;
    private static Random r;
    private static int[][] cells;
    private static int[] size;

    private static int row(int op, int b, int c) {
        int answer = x.does(0, 0, op, 1, b, c);
        for (int i = 0; i < 60 && answer == -1000; i++) {
            x.step(5);
            answer = x.thread(0, 0, 's') == 1 && x.waits(0, 0, 's') == 'h' ? x.register(0, 0, 1) : -1000;
        }
        return answer;
    }

    private static void begin() {
        x.spawn(0, 0, -1);
        for (int f = 0; f < FILES; f++) {
            Check.is("50", row(50, f + 1, 7), f);
        }
    }

    private static void compare(String what) {
        for (int f = 0; f < FILES; f++) {
            int i = x.find(0, f + 1);
            Check.is(what + " size", x.inode(0, i, 4), size[f]);
            for (int n = 0; n < size[f]; n++) {
                Check.is(what + " cell", x.content(0, i, n), cells[f][n]);
            }
        }
    }

    private static void change() {
        int f = r.nextInt(FILES);
        int at = r.nextInt(r.nextInt(3) == 0 ? 80 : 20);
        switch (r.nextInt(8)) {
            case 0:
                int length = r.nextInt(81);
                Check.is("65", row(65, f + 1, length), 0);
                for (int n = length; n < 80; n++) {
                    cells[f][n] = 0;
                }
                size[f] = length;
                break;
            case 1:
                Check.is("54", row(54, f, at), 0);
                int got = row(52, f, 2);
                Check.is("52", got, at < size[f] ? cells[f][at] : 0);
                Check.is("52", x.register(0, 0, 2), at < size[f] ? 1 : 0);
                break;
            case 2: x.step(1 + r.nextInt(20)); break;
            default:
                int value = r.nextInt(1000);
                Check.is("54", row(54, f, at), 0);
                Check.is("53", row(53, f, value), 1);
                cells[f][at] = value;
                size[f] = Math.max(size[f], at + 1);
                break;
        }
    }

    private static void fall() {
        // Nothing is changed behind the sync, so all is there.
        Check.is("64", row(64, 0, 0), 0);
        x.step(1 + r.nextInt(40));
        x.crash(0);
        x.boot(0);
        Check.is("isWhole", x.isWhole(0), true);
        Check.is("faults", x.faults(0), 0);
        compare("behind a start");
        begin();
    }

    public static void main(String[] args) {
        int runs = args.length > 0 ? Integer.parseInt(args[0]) : 60;
        for (int run = 0; run < runs; run++) {
            x = new KernelWorks();
            r = new Random(run);
            cells = new int[FILES][80];
            size = new int[FILES];
            begin();
            for (int i = 0; i < 120; i++) {
                change();
                if (r.nextInt(30) == 0) {
                    fall();
                }
            }
            compare("at the end");
            Check.is("isSound", x.isSound(), true);
        }
        Check.end("ModelTest");
    }
}
