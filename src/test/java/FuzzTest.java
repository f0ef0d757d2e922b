import java.util.NoSuchElementException;
import java.util.Random;

/** Runs of random calls: nothing but the documented exceptions comes out, and what is promised always holds. */
public final class FuzzTest {
    private static final int[] OPS = {0, 1, 2, 3, 4, 5, 6, 7, 8, 9, 10, 11, 12, 13, 14, 20, 21, 22, 23, 24, 25, 26, 27,
        28, 29, 30, 31, 32, 33, 34, 35, 40, 41, 42, 43, 44, 45, 46, 50, 51, 52, 53, 54, 55, 56, 57, 58, 59, 60, 61, 62,
        63, 64, 65, 66, 67, 68, 69, 70, 71, 80, 81, 82, 83, 84, 85, 86};
    private static final String[] LINES = {"echo hi\n", "ls /\n", "cat /a\n", "echo a b > /a\n", "echo $x $? >> a\n",
        "x=ab\n", "sleep 5 &\n", "wait\n", "fg 1\n", "mkdir /d\n", "cd /d\n", "cd /\n", "rm /a\n", "ln /a /b\n",
        "mv /a /c\n", "echo x | cat | wc\n", "lp < /a\n", "sync\n", "sh a\n", "kill 9 2\n", "kill 10 2\n", "exit\n",
        "exit 3\n", "1 && 2 || 3\n", "1 &\n", "echo 'a b' \"$x\" > b\n", "cat\n", "\u0004", "\u0003", "\u001a",
        "echo sync;sync\n", "sh /b &\n", "echo echo hi > b\n", "x=$x$x$x\n", "a||b\n", ";\n", "'\n", "2 | 3 | 4 &\n",
        "cat < a > b\n", "chmod a 511\n", "echo 1 > /d/a\n", "7 < /a\n", "wc < a | cat &\n"};
    private static Random r;
    private static KernelWorks x;
    private static int wrong;

    private static int small() {
        switch (r.nextInt(12)) {
            case 0: return r.nextInt(3) - 1;
            case 1: return r.nextInt(100);
            case 2: return r.nextInt(1200) - 100;
            case 3: return 1000 + r.nextInt(8);
            case 4: return 1000 + r.nextInt(8);
            case 5: return r.nextInt(30) * 27 + r.nextInt(5);
            case 6: return -r.nextInt(40);
            case 7: return r.nextInt(20) == 0 ? r.nextInt() : r.nextInt(6);
            default: return r.nextInt(8);
        }
    }

    // Operations that belong together, so that runs get deep into one part.
    private static final int[][] THEMES = {
        {10, 11, 10, 11, 11, 20, 35, 68, 69, 50, 53, 21, 22},
        {50, 51, 52, 53, 54, 55, 56, 57, 58, 59, 60, 61, 62, 63, 64, 65, 70, 53, 53, 52, 50, 50},
        {80, 81, 82, 52, 53, 53, 51, 81, 82, 80, 20, 67},
        {50, 53, 53, 85, 85, 86, 1, 1, 85, 65, 56, 83, 84},
        {27, 28, 29, 31, 33, 20, 22, 23, 34, 32, 42, 43, 40, 66, 52, 53, 45, 44},
        {40, 41, 42, 43, 44, 45, 46, 24, 25, 26, 66, 52, 53, 67, 20, 23},
        {50, 53, 68, 10, 11, 10, 11, 65, 85, 86, 1}};
    private static int[] theme = OPS;

    private static int pick(int... of) {
        return of[r.nextInt(of.length)];
    }

    private static int path() {
        return pick(1, 2, 3, 1, 2, 28, 29, 55, 56, -1, -2, 0, 27, 783, r.nextInt(800));
    }

    /** Numbers b and c that an operation can do something with. */
    private static int[] operands(int op) {
        int cell = r.nextInt(100);
        switch (op) {
            case 1: return new int[] {pick(0, 1, 3, 9, 20, 79, 5), 0};
            case 10:
            case 11: return new int[] {r.nextInt(64), 0};
            case 20: return new int[] {0, 0};
            case 21: return new int[] {r.nextInt(28), 0};
            case 27: return new int[] {1 + r.nextInt(4), 1 + r.nextInt(11)};
            case 28: return new int[] {1 + r.nextInt(11), r.nextInt(6) - 2};
            case 29: return new int[] {r.nextInt(4096), 0};
            case 44: return new int[] {1 + r.nextInt(4), cell};
            case 46: return new int[] {100 * (1 + r.nextInt(4)) + r.nextInt(5), cell};
            case 50: return new int[] {path(), pick(7, 7, 3, 1, 2, 6, 14, 22, 30, 39, r.nextInt(64))};
            case 51:
            case 52: return new int[] {r.nextInt(3), r.nextInt(8)};
            case 53: return new int[] {r.nextInt(3), cell};
            case 54: return new int[] {r.nextInt(3), r.nextInt(82) - 1};
            case 55:
            case 56:
            case 63: return new int[] {path(), 0};
            case 57:
            case 58:
            case 59: return new int[] {path(), path()};
            case 60: return new int[] {path(), r.nextInt(8)};
            case 61: return new int[] {path(), pick(511, 493, 420, 0, r.nextInt(512))};
            case 62: return new int[] {path(), 10 * r.nextInt(5) + r.nextInt(3)};
            case 65: return new int[] {path(), r.nextInt(82) - 1};
            case 67: return new int[] {r.nextInt(3), r.nextInt(6)};
            case 68: return new int[] {r.nextInt(2), 10 * r.nextInt(8) + r.nextInt(3)};
            case 70: return new int[] {path(), r.nextInt(4)};
            case 80:
            case 82: return new int[] {r.nextInt(2), 0};
            case 81: return new int[] {r.nextInt(3), r.nextInt(2)};
            case 83:
            case 84: return new int[] {1 + r.nextInt(3), r.nextInt(10)};
            case 85:
            case 86: return new int[] {r.nextInt(3), pick(1, 2, 3, 28)};
            default: return new int[] {small(), small()};
        }
    }

    private static int driven(int m) {
        for (int i = 0; i < 20; i++) {
            int t = r.nextInt(8);
            try {
                if (x.waits(m, t, 's') == 'h') {
                    return t;
                }
            } catch (RuntimeException e) {
                continue;
            }
        }
        return -1;
    }

    private static void doWell() {
        int m = r.nextInt(3);
        if (!x.isUp(m)) {
            x.boot(m);
        }
        int t = driven(m);
        if (t < 0) {
            x.spawn(m, pick(0, 0, 0, 1, 2), -1);
            return;
        }
        int op = theme[r.nextInt(theme.length)];
        int[] v = operands(op);
        int a = op == 1 ? pick(7, 7, 6) : op == 11 ? r.nextInt(100) : r.nextInt(8);
        if (r.nextInt(8) == 0) {
            x.tell(m, t, op, a, v[0], v[1]);
        } else {
            x.does(m, t, op, a, v[0], v[1]);
        }
    }

    private static void writeProgram() {
        int p = r.nextInt(16);
        int n = 2 + r.nextInt(6);
        for (int at = 0; at < n; at += 2) {
            int one = theme[r.nextInt(theme.length)];
            int two = at + 2 >= n ? pick(8, 33, 43, 45, 22) : theme[r.nextInt(theme.length)];
            int[] v = operands(one);
            int[] w = operands(two);
            x.rows(p, at, one, r.nextInt(8), v[0], v[1], two, two == 8 ? 0 : r.nextInt(8), w[0], w[1]);
        }
        int m = r.nextInt(3);
        x.spawn(m, pick(0, 1, 2), p);
    }

    private static int op() {
        return r.nextInt(40) == 0 ? r.nextInt(100) : OPS[r.nextInt(OPS.length)];
    }

    private static int register() {
        return r.nextInt(60) == 0 ? small() : r.nextInt(8);
    }

    private static int machine() {
        return r.nextInt(100) == 0 ? r.nextInt(7) - 2 : r.nextInt(3);
    }

    private static void typeLine(int m, String s) {
        long[] k = new long[5];
        for (int i = 0; i < 40; i++) {
            k[i / 8] = k[i / 8] << 8 | (i < s.length() ? s.charAt(i) : 0);
        }
        x.type(m, k[0], k[1], k[2], k[3], k[4]);
    }

    private static void tellSomething() {
        int m = machine();
        if (r.nextInt(10) < 7) {
            if (r.nextInt(12) == 0) {
                writeProgram();
            } else if (r.nextInt(12) == 0) {
                x.step(1 + r.nextInt(20));
            } else if (r.nextInt(60) == 0) {
                spoilSome();
            } else if (r.nextInt(20) == 0) {
                typeLine(m, LINES[r.nextInt(LINES.length)]);
            } else {
                doWell();
            }
            return;
        }
        switch (r.nextInt(22)) {
            case 0:
            case 1:
            case 2:
                int p = r.nextInt(16);
                x.rows(p, r.nextInt(6), op(), register(), small(), small(), r.nextInt(4) == 0 ? -1 : op(),
                    register(), small(), small());
                break;
            case 3: x.user(r.nextInt(5), r.nextInt(8), 1 + r.nextInt(9), r.nextInt(41), r.nextInt(21)); break;
            case 4: x.link(machine(), machine(), 1 + r.nextInt(9), r.nextInt(4), r.nextInt(10)); break;
            case 5: x.cut(machine(), machine(), r.nextInt(4) == 0); break;
            case 6: x.seed(r.nextInt()); break;
            case 7:
            case 8: x.spawn(m, r.nextInt(3) == 0 ? r.nextInt(5) : 0, r.nextInt(17) - 1); break;
            case 9: x.tell(m, r.nextInt(14), op(), register(), small(), small()); break;
            case 10:
            case 11:
            case 12:
            case 13:
            case 14: x.does(m, r.nextInt(3), op(), register(), small(), small()); break;
            case 15: x.step(1 + r.nextInt(r.nextInt(10) == 0 ? 400 : 30)); break;
            case 16:
                if (r.nextInt(4) == 0) {
                    x.crash(m);
                }
                break;
            case 17: x.boot(m); break;
            case 18:
            case 19: typeLine(m, LINES[r.nextInt(LINES.length)]); break;
            case 20: x.login(m, r.nextInt(5)); break;
            default:
                if (r.nextBoolean()) {
                    x.upgrade(m, r.nextInt(11), r.nextInt(16));
                } else if (r.nextInt(3) == 0) {
                    x.spoil(m, r.nextInt(70), r.nextInt(8), small() * (r.nextBoolean() ? 1 : 100));
                } else {
                    x.mend(m);
                }
                break;
        }
    }

    /** A machine falls down, its disc is spoiled, and is mended by a call or by the start. */
    private static void spoilSome() {
        int m = r.nextInt(3);
        if (x.isUp(m)) {
            x.crash(m);
        }
        int many = 1 + r.nextInt(8);
        for (int i = 0; i < many; i++) {
            int block = pick(0, 1, 10, 11, 12, 13, 14, 10 + r.nextInt(20), 30 + r.nextInt(6), r.nextInt(70));
            int cell = r.nextInt(8);
            int value = pick(0, 1, 2, 3, 9, 30, 31, 32, 33, 81, 101, 102, 205, 427, 1901, 2001, -1, r.nextInt(300),
                r.nextInt());
            x.spoil(m, block, cell, value);
            x.faults(m);
            if (r.nextInt(4) == 0) {
                askSomething();
            }
        }
        if (r.nextBoolean()) {
            x.mend(m);
            if (x.faults(m) != 0 || x.mend(m) != 0) {
                wrong++;
                System.out.println("a mended disc has faults");
            }
        }
        x.boot(m);
        if (x.faults(m) != 0) {
            wrong++;
            System.out.println("a started disc has faults");
        }
    }

    private static void askSomething() {
        int m = machine();
        int n = r.nextInt(12) - 1;
        char what = "pugvdsxmwrltfhcabnoi".charAt(r.nextInt(20));
        switch (r.nextInt(26)) {
            case 0: x.process(m, n, what); break;
            case 1: x.thread(m, n, what); break;
            case 2: x.register(m, n, r.nextInt(9)); break;
            case 3: x.waits(m, n, "snt".charAt(r.nextInt(3))); break;
            case 4: x.ran(m); x.load(m, n); break;
            case 5: x.page(m, n, r.nextInt(8)); x.pageAt(m, n, r.nextInt(9)); break;
            case 6: x.frame(m, n, what); break;
            case 7: x.cell(m, n, r.nextInt(65)); break;
            case 8: x.lock(m, n, "hbw".charAt(r.nextInt(3))); break;
            case 9: x.queue(m, n, r.nextInt(4)); break;
            case 10: x.deadlocked(m); x.isWhole(m); break;
            case 11: x.find(m, small()); break;
            case 12: x.inode(m, r.nextInt(20), r.nextInt(8)); x.content(m, r.nextInt(4), r.nextInt(9)); break;
            case 13: x.block(m, r.nextInt(82), r.nextInt(8)); x.held(m, 30 + r.nextInt(40)); break;
            case 14: x.log(m, "onsp".charAt(r.nextInt(4))); break;
            case 15: x.fault(m, r.nextInt(3), r.nextBoolean()); break;
            case 16: x.disc(m, "aqlb".charAt(r.nextInt(4))); break;
            case 17: x.shown(m, r.nextInt(200)); break;
            case 18: x.printed(m, r.nextInt(20)); break;
            case 19: x.keys(m, r.nextBoolean()); x.packets(m); break;
            case 20: x.end(m, n, "simorbx".charAt(r.nextInt(7))); break;
            case 21: x.named(r.nextInt(27)); break;
            case 22: x.leases(m, r.nextInt(20)); x.copies(m); break;
            case 23: x.status(m, n); x.job(m, n, r.nextInt(5)); break;
            case 24: x.variable(m, n, (char) ('a' + r.nextInt(26)), r.nextInt(3)); break;
            default: x.event(r.nextInt(120), "tmsn".charAt(r.nextInt(4))); x.account(m, r.nextInt(5), 't'); break;
        }
    }

    private static boolean isDocumented(RuntimeException e) {
        Class<?> c = e.getClass();
        return c == IllegalArgumentException.class || c == UnsupportedOperationException.class
            || c == IndexOutOfBoundsException.class || c == IllegalStateException.class
            || c == NoSuchElementException.class || c == ArithmeticException.class;
    }

    public static void main(String[] args) {
        int runs = args.length > 0 ? Integer.parseInt(args[0]) : 1500;
        int first = args.length > 1 ? Integer.parseInt(args[1]) : 0;
        for (int run = first; run < first + runs; run++) {
            r = new Random(run);
            x = new KernelWorks();
            theme = run % 8 == 7 ? OPS : THEMES[run % 8];
            for (int call = 0; call < 500; call++) {
                try {
                    if (r.nextInt(3) > 0) {
                        tellSomething();
                    } else {
                        askSomething();
                    }
                } catch (RuntimeException e) {
                    if (!isDocumented(e)) {
                        wrong++;
                        System.out.println("run " + run + ", call " + call + ": " + e);
                        e.printStackTrace(System.out);
                    }
                }
                if (call % 25 == 24 && !x.isSound()) {
                    wrong++;
                    System.out.println("run " + run + ", call " + call + ": not sound");
                    break;
                }
                if (call % 60 == 59 && x.time() <= 300) {
                    try {
                        if (!x.isReplayed()) {
                            wrong++;
                            System.out.println("run " + run + ", call " + call + ": not replayed");
                        }
                    } catch (IllegalStateException e) {
                        continue;
                    }
                }
            }
            if (wrong > 5) {
                break;
            }
        }
        System.out.println(wrong == 0 ? runs + " random runs are as promised" : wrong + " faults");
        if (wrong > 0) {
            System.exit(1);
        }
    }
}
