import java.util.NoSuchElementException;
import java.util.Random;

/**
 * Runs of random calls to the class and to the second writing of the document: both answer the same, nothing but the
 * documented exceptions comes out, and what is promised always holds. "java BothTest RUNS FIRST" does other runs;
 * a third argument has the calls of a run told that differs.
 */
public final class BothTest {
    private static final int[] OPS = {0, 1, 2, 3, 4, 5, 6, 7, 8, 9, 10, 11, 12, 13, 14, 20, 21, 22, 23, 24, 25, 26, 27,
        28, 29, 30, 31, 32, 33, 34, 35, 40, 41, 42, 43, 44, 45, 46, 50, 51, 52, 53, 54, 55, 56, 57, 58, 59, 60, 61, 62,
        63, 64, 65, 66, 67, 68, 69, 70, 71, 80, 81, 82, 83, 84, 85, 86};
    private static final String[] LINES = {"echo hi\n", "ls /\n", "cat /a\n", "echo a b > /a\n", "echo $x $? >> a\n",
        "x=ab\n", "sleep 5 &\n", "wait\n", "fg 1\n", "mkdir /d\n", "cd /d\n", "cd /\n", "rm /a\n", "ln /a /b\n",
        "mv /a /c\n", "echo x | cat | wc\n", "lp < /a\n", "sync\n", "sh a\n", "kill 9 2\n", "kill 10 2\n", "exit\n",
        "exit 3\n", "1 && 2 || 3\n", "1 &\n", "echo 'a b' \"$x\" > b\n", "cat\n", "\u0004", "\u0003", "\u001a",
        "echo sync;sync\n", "sh /b &\n", "echo echo hi > b\n", "x=$x$x$x\n", "a||b\n", ";\n", "'\n", "2 | 3 | 4 &\n",
        "cat < a > b\n", "chmod a 511\n", "echo 1 > /d/a\n", "7 < /a\n", "wc < a | cat &\n"};
    private static Random r;
    private static Both both;
    private static Works x;
    private static int wrong;

    private static int small() {
        switch (r.nextInt(12)) {
            case 0: return r.nextInt(3) - 1;
            case 1: return r.nextInt(100);
            case 2: return r.nextInt(1200) - 100;
            case 3: return 1000 + r.nextInt(8);
            case 4: return 1000 + r.nextInt(8);
            case 5: return r.nextInt(30) * 27 + r.nextInt(5);
            case 6: return -r.nextInt(40);
            case 7: return r.nextInt(20) == 0 ? r.nextInt() : r.nextInt(6);
            default: return r.nextInt(8);
        }
    }

    // Operations that belong together, so that runs get deep into one part.
    private static final int[][] THEMES = {
        {10, 11, 10, 11, 11, 20, 35, 68, 69, 50, 53, 21, 22},
        {50, 51, 52, 53, 54, 55, 56, 57, 58, 59, 60, 61, 62, 63, 64, 65, 70, 53, 53, 52, 50, 50},
        {80, 81, 82, 52, 53, 53, 51, 81, 82, 80, 20, 67},
        {50, 53, 53, 85, 85, 86, 1, 1, 85, 65, 56, 83, 84},
        {27, 28, 29, 31, 33, 20, 22, 23, 34, 32, 42, 43, 40, 66, 52, 53, 45, 44},
        {40, 41, 42, 43, 44, 45, 46, 24, 25, 26, 66, 52, 53, 67, 20, 23},
        {50, 53, 68, 10, 11, 10, 11, 65, 85, 86, 1}};
    private static int[] theme = OPS;

    private static int pick(int... of) {
        return of[r.nextInt(of.length)];
    }

    private static int path() {
        return pick(1, 2, 3, 1, 2, 28, 29, 55, 56, -1, -2, 0, 27, 783, r.nextInt(800));
    }

    /** Numbers b and c that an operation can do something with. */
    private static int[] operands(int op) {
        int cell = r.nextInt(100);
        switch (op) {
            case 1: return new int[] {pick(0, 1, 3, 9, 20, 79, 5), 0};
            case 10:
            case 11: return new int[] {r.nextInt(64), 0};
            case 20: return new int[] {0, 0};
            case 21: return new int[] {r.nextInt(28), 0};
            case 27: return new int[] {1 + r.nextInt(4), 1 + r.nextInt(11)};
            case 28: return new int[] {1 + r.nextInt(11), r.nextInt(6) - 2};
            case 29: return new int[] {r.nextInt(4096), 0};
            case 44: return new int[] {1 + r.nextInt(4), cell};
            case 46: return new int[] {100 * (1 + r.nextInt(4)) + r.nextInt(5), cell};
            case 50: return new int[] {path(), pick(7, 7, 3, 1, 2, 6, 14, 22, 30, 39, r.nextInt(64))};
            case 51:
            case 52: return new int[] {r.nextInt(3), r.nextInt(8)};
            case 53: return new int[] {r.nextInt(3), cell};
            case 54: return new int[] {r.nextInt(3), r.nextInt(82) - 1};
            case 55:
            case 56:
            case 63: return new int[] {path(), 0};
            case 57:
            case 58:
            case 59: return new int[] {path(), path()};
            case 60: return new int[] {path(), r.nextInt(8)};
            case 61: return new int[] {path(), pick(511, 493, 420, 0, r.nextInt(512))};
            case 62: return new int[] {path(), 10 * r.nextInt(5) + r.nextInt(3)};
            case 65: return new int[] {path(), r.nextInt(82) - 1};
            case 67: return new int[] {r.nextInt(3), r.nextInt(6)};
            case 68: return new int[] {r.nextInt(2), 10 * r.nextInt(8) + r.nextInt(3)};
            case 70: return new int[] {path(), r.nextInt(4)};
            case 80:
            case 82: return new int[] {r.nextInt(2), 0};
            case 81: return new int[] {r.nextInt(3), r.nextInt(2)};
            case 83:
            case 84: return new int[] {1 + r.nextInt(3), r.nextInt(10)};
            case 85:
            case 86: return new int[] {r.nextInt(3), pick(1, 2, 3, 28)};
            default: return new int[] {small(), small()};
        }
    }

    private static int driven(int m) {
        for (int i = 0; i < 20; i++) {
            int t = r.nextInt(8);
            try {
                if (x.waits(m, t, 's') == 'h') {
                    return t;
                }
            } catch (RuntimeException e) {
                continue;
            }
        }
        return -1;
    }

    private static void doWell() {
        int m = r.nextInt(3);
        if (!x.isUp(m)) {
            x.boot(m);
        }
        int t = driven(m);
        if (t < 0) {
            x.spawn(m, pick(0, 0, 0, 1, 2), -1);
            return;
        }
        int op = theme[r.nextInt(theme.length)];
        int[] v = operands(op);
        int a = op == 1 ? pick(7, 7, 6) : op == 11 ? r.nextInt(100) : r.nextInt(8);
        if (r.nextInt(8) == 0) {
            x.tell(m, t, op, a, v[0], v[1]);
        } else {
            x.does(m, t, op, a, v[0], v[1]);
        }
    }

    private static void writeProgram() {
        int p = r.nextInt(16);
        int n = 2 + r.nextInt(6);
        for (int at = 0; at < n; at += 2) {
            int one = theme[r.nextInt(theme.length)];
            int two = at + 2 >= n ? pick(8, 33, 43, 45, 22) : theme[r.nextInt(theme.length)];
            int[] v = operands(one);
            int[] w = operands(two);
            x.rows(p, at, one, r.nextInt(8), v[0], v[1], two, two == 8 ? 0 : r.nextInt(8), w[0], w[1]);
        }
        int m = r.nextInt(3);
        x.spawn(m, pick(0, 1, 2), p);
    }

    private static int op() {
        return r.nextInt(40) == 0 ? r.nextInt(100) : OPS[r.nextInt(OPS.length)];
    }

    private static int register() {
        return r.nextInt(60) == 0 ? small() : r.nextInt(8);
    }

    private static int machine() {
        return r.nextInt(100) == 0 ? r.nextInt(7) - 2 : r.nextInt(3);
    }

    private static void typeLine(int m, String s) {
        long[] k = new long[5];
        for (int i = 0; i < 40; i++) {
            k[i / 8] = k[i / 8] << 8 | (i < s.length() ? s.charAt(i) : 0);
        }
        x.type(m, k[0], k[1], k[2], k[3], k[4]);
    }


    private static void anything() {
        int m = machine();
        if (r.nextInt(10) < 7) {
            if (r.nextInt(12) == 0) {
                writeProgram();
            } else if (r.nextInt(12) == 0) {
                x.step(1 + r.nextInt(20));
            } else if (r.nextInt(60) == 0) {
                spoilSome();
            } else if (r.nextInt(20) == 0) {
                typeLine(m, LINES[r.nextInt(LINES.length)]);
            } else {
                doWell();
            }
            return;
        }
        switch (r.nextInt(22)) {
            case 0:
            case 1:
            case 2:
                int p = r.nextInt(16);
                x.rows(p, r.nextInt(6), op(), register(), small(), small(), r.nextInt(4) == 0 ? -1 : op(),
                    register(), small(), small());
                break;
            case 3: x.user(r.nextInt(5), r.nextInt(8), 1 + r.nextInt(9), r.nextInt(41), r.nextInt(21)); break;
            case 4: x.link(machine(), machine(), 1 + r.nextInt(9), r.nextInt(4), r.nextInt(10)); break;
            case 5: x.cut(machine(), machine(), r.nextInt(4) == 0); break;
            case 6: x.seed(r.nextInt()); break;
            case 7:
            case 8: x.spawn(m, r.nextInt(3) == 0 ? r.nextInt(5) : 0, r.nextInt(17) - 1); break;
            case 9: x.tell(m, r.nextInt(14), op(), register(), small(), small()); break;
            case 10:
            case 11:
            case 12:
            case 13:
            case 14: x.does(m, r.nextInt(3), op(), register(), small(), small()); break;
            case 15: x.step(1 + r.nextInt(r.nextInt(10) == 0 ? 400 : 30)); break;
            case 16:
                if (r.nextInt(4) == 0) {
                    x.crash(m);
                }
                break;
            case 17: x.boot(m); break;
            case 18:
            case 19: typeLine(m, LINES[r.nextInt(LINES.length)]); break;
            case 20: x.login(m, r.nextInt(5)); break;
            default:
                if (r.nextBoolean()) {
                    x.upgrade(m, r.nextInt(11), r.nextInt(16));
                } else if (r.nextInt(3) == 0) {
                    x.spoil(m, r.nextInt(70), r.nextInt(8), small() * (r.nextBoolean() ? 1 : 100));
                } else {
                    x.mend(m);
                }
                break;
        }
    }

    private static final int SCENES = 26;
    private static int scene;

    private static void tellSomething() {
        if (r.nextInt(25) == 0) { x.step(1 + r.nextInt(r.nextInt(6) == 0 ? 120 : 12)); return; }
        switch (scene) {
            case 0: bigFiles(); break;
            case 1: rpc(); break;
            case 2: signals(); break;
            case 3: net(); break;
            case 4: shell(); break;
            case 5: spoilAndUse(); break;
            case 6: memory(); break;
            case 7: far(); break;
            case 8: tree(); break;
            case 9: mixed(); break;
            case 13: anything(); break;
            case 14: manySignals(); break;
            case 15: jobs(); break;
            case 16: keys(); break;
            case 17: names(); break;
            case 18: manyLeases(); break;
            case 19: closings(); break;
            case 20: crashes(); break;
            case 21: quotas(); break;
            case 22: takenBack(); break;
            case 23: maps(); break;
            case 24: noneLeft(); break;
            case 25: full(0); break;
            default: threads(); break;
        }
    }
    private static void go(int m, int op, int a, int b, int c) {
        if (!x.isUp(m)) { x.boot(m); }
        int t = driven(m);
        if (t < 0) { x.spawn(m, pick(0, 0, 1, 2, 3, 4), -1); return; }
        if (r.nextInt(6) == 0) x.tell(m, t, op, a, b, c); else x.does(m, t, op, a, b, c);
    }
    private static void bigFiles() {
        int m = r.nextInt(40) == 0 ? 1 : 0;
        switch (r.nextInt(20)) {
            case 0: go(m, 50, r.nextInt(8), 1 + r.nextInt(22), pick(7, 7, 7, 15, 3, 19)); break;
            case 1: go(m, 51, r.nextInt(8), r.nextInt(6), 0); break;
            case 2: case 3: case 4: case 5: go(m, 54, r.nextInt(8), r.nextInt(6), 8 * r.nextInt(11) + r.nextInt(2));
                    break;
            case 6: case 7: case 8: case 9: case 10: go(m, 53, r.nextInt(8), r.nextInt(6), r.nextInt(200)); break;
            case 11: case 12: case 13: go(m, 52, r.nextInt(8), r.nextInt(6), r.nextInt(8)); break;
            case 14: go(m, 65, r.nextInt(8), 1 + r.nextInt(8), r.nextInt(82)); break;
            case 15: go(m, 64, r.nextInt(8), 0, 0); break;
            case 16: if (r.nextInt(6) == 0) { x.crash(m); } else x.step(1 + r.nextInt(60)); break;
            case 17: if (r.nextInt(3) == 0) x.user(1 + r.nextInt(4), r.nextInt(8), 1 + r.nextInt(9), pick(0, 1, 2, 5,
                    11, 40), pick(0, 1, 2, 3, 20)); else go(m, 61, 0, pick(0, 1, 2, 3), pick(511, 511, 448)); break;
            case 18: go(m, pick(56, 62, 60, 57), r.nextInt(8), 1 + r.nextInt(8), pick(1, 2, 3, 11, 22, 6, 33, 44));
                    break;
            default: go(m, 55, r.nextInt(8), 1 + r.nextInt(26), 0); break;
        }
    }
    private static void tree() {
        int m = 0;
        int p = pick(1, 2, 3, 28, 29, 30, 55, 56, 57, 28 * 27 + 1, 28 * 27 + 2, 29 * 27 + 1, -1, -2, -3, -28, -29, 0,
                27, 783, 784, 785);
        int q = pick(1, 2, 3, 28, 29, 30, 55, 56, 57, 28 * 27 + 1, 28 * 27 + 2, 29 * 27 + 1, -1, -2, -3, -28, -29, 0,
                27, 783, 784, 785);
        switch (r.nextInt(22)) {
            case 0: case 1: case 2: go(m, 55, r.nextInt(8), p, 0); break;
            case 3: case 4: case 5: go(m, 50, r.nextInt(8), p, pick(7, 6, 3, 1, 39, 15, 5, 2)); break;
            case 6: go(m, 51, r.nextInt(8), r.nextInt(6), 0); break;
            case 7: case 8: go(m, 56, r.nextInt(8), p, 0); break;
            case 9: case 10: go(m, 57, r.nextInt(8), p, q); break;
            case 11: case 12: go(m, 58, r.nextInt(8), p, q); break;
            case 13: case 14: case 15: go(m, 59, r.nextInt(8), p, q); break;
            case 16: go(m, 60, r.nextInt(8), p, r.nextInt(7)); break;
            case 17: go(m, 61, r.nextInt(8), p, pick(511, 493, 0, 448, 7, 56, 365, 292, 438, 511, 511)); break;
            case 18: go(m, 62, r.nextInt(8), p, 10 * r.nextInt(6) + r.nextInt(4)); break;
            case 19: go(m, 63, r.nextInt(8), p, 0); break;
            case 20: go(m, 70, r.nextInt(8), p, r.nextInt(5)); break;
            default: if (r.nextInt(10) == 0) x.user(1 + r.nextInt(4), r.nextInt(8), 1 + r.nextInt(9), pick(0, 1, 2,
                    40), pick(0, 1, 2, 20)); else go(m, 65, 0, p, r.nextInt(20)); break;
        }
    }
    private static void put(int p, int... w) {
        for (int i = 0; i < w.length; i += 4) x.rows(p, i / 4, w[i], w[i + 1], w[i + 2], w[i + 3], -1, 0, 0, 0);
    }
    private static int s11() { return 1 + r.nextInt(11); }
    private static void rpc() {
        if (x.time() == 0) {
            put(0, 45, 0, 0, 1, 2, 2, 1000, 1, 46, 3, 1001, 1002, 8, 0, 0, 0);
            put(1, 45, 0, 0, 1, 5, 2, 1000, r.nextInt(2), 46, 3, 1001, 1000, 8, 0, 0, 0);
            put(2, 28, 0, s11(), 3, 45, 0, 0, 1, 46, 3, 1001, 7, 33, pick(1, 5, 18, 19, 20, 21), 0, 0, pick(99, 5,
                    27, 8), 1, 1, pick(0, 4, 8), 30, 0, 0, 0);
            put(3, 24, 0, 1, 0, 45, 0, 0, 1, 46, 3, 1001, 9, 43, 2, 0, 0, 8, 1, 0, 0);
            put(4, 29, 0, 256 + 16, 0, 5, 1, 1, 0, 33, pick(1, 17, 18, 19, 20), 0, 0, 29, 0, 0, 0, 45, 0, 0, 1, 8, 4,
                    0, 0);
            put(5, 80, 0, r.nextInt(3), 0, 82, 1, r.nextInt(3), 0, 8, 1, 0, 0);
            put(6, 43, 1, 0, 0, 27, 1, 1, pick(4, 8), 8, 0, 0, 0);
            for (int i = 0; i < 3; i++) x.spawn(0, r.nextInt(2), r.nextInt(7));
            for (int i = 0; i < 3; i++) x.spawn(0, 0, -1);
            return;
        }
        switch (r.nextInt(10)) {
            case 0: case 1: case 2: go(0, 44, r.nextInt(8), 1 + r.nextInt(6), r.nextInt(9)); break;
            case 3: x.upgrade(0, 1 + r.nextInt(5), r.nextInt(8)); break;
            case 4: go(0, 27, r.nextInt(8), 1 + r.nextInt(6), pick(s11(), 4, 8, 11)); break;
            case 5: go(0, 42, r.nextInt(8), r.nextInt(2), r.nextInt(9)); break;
            case 6: go(0, pick(45, 46), r.nextInt(8), 100 * (1 + r.nextInt(6)) + r.nextInt(9), r.nextInt(8)); break;
            case 7: x.step(1 + r.nextInt(22)); break;
            case 8: if (r.nextInt(4) == 0) x.spawn(0, r.nextInt(2), r.nextInt(7)); else x.upgrade(0, 1 +
                    r.nextInt(5), r.nextInt(8)); break;
            default: go(0, pick(81, 20, 40, 41, 22, 23), r.nextInt(8), 0, r.nextInt(3)); break;
        }
    }
    private static void signals() {
        if (x.time() == 0) {
            for (int p = 0; p < 8; p++) {
                int[] w = new int[4 * 12];
                int n = 0;
                for (int i = 0; i < 3; i++) { w[n++] = 28; w[n++] = r.nextInt(8); w[n++] = s11(); w[n++] = pick(9,
                        10, 9, 10, -2, -1, 12, 0); }
                int[] ops = {43, 23, 33, 25, 24, 20, 66, 52, 53, 29, 31, 40, 41, 81, 82, 84, 85, 44, 45, 1, 13, 26,
                        22, 50, 64, 27, 32, 35, 21, 83};
                for (int i = 0; i < 6; i++) { int o = ops[r.nextInt(ops.length)]; int[] v = operands(o); w[n++] = o;
                        w[n++] = r.nextInt(8); w[n++] = o == 24 ? r.nextInt(12) : o == 20 ? 0 : o == 33 ? 0 : o == 31
                        ? r.nextInt(30) : o == 43 ? r.nextInt(4) : v[0]; w[n++] = v[1]; }
                w[n++] = 2; w[n++] = 5; w[n++] = 1005; w[n++] = 1;
                w[n++] = 30; w[n++] = 0; w[n++] = 0; w[n++] = 0;
                w[n++] = 8; w[n++] = pick(3, 4, 0); w[n++] = 0; w[n++] = 0;
                put(p, w);
            }
            x.spawn(0, 0, -1);
            return;
        }
        switch (r.nextInt(8)) {
            case 0: x.spawn(0, r.nextInt(2), r.nextInt(8)); break;
            case 1: case 2: case 3: go(0, 27, r.nextInt(8), 1 + r.nextInt(7), s11()); break;
            case 4: x.step(1 + r.nextInt(10)); break;
            case 5: go(0, 42, 0, r.nextInt(4), 1); break;
            case 6: x.upgrade(0, 1 + r.nextInt(6), r.nextInt(8)); break;
            default: if (r.nextInt(4) == 0) x.rows(r.nextInt(8), r.nextInt(12), pick(0, 1, 43, 52, 99, 33, 45, 28),
                    r.nextInt(9), r.nextInt(6), r.nextInt(9), -1, 0, 0, 0); else x.step(1 + r.nextInt(30)); break;
        }
    }
    private static void net() {
        if (x.time() == 0) {
            for (int i = 0; i < 3; i++) x.link(i, (i + 1) % 3, 1 + r.nextInt(9), pick(0, 0, 1, 3), pick(0, 0, 2, 9));
            x.seed(r.nextInt());
            for (int m = 0; m < 3; m++) { x.spawn(m, 0, -1); x.spawn(m, 0, -1); x.spawn(m, 1, -1); }
            for (int m = 0; m < 3; m++) { x.does(m, 0, 80, 0, 0, 0); x.does(m, 1, 80, 0, 1, 0); }
            return;
        }
        int m = r.nextInt(3);
        switch (r.nextInt(14)) {
            case 0: case 1: case 2: go(m, 81, r.nextInt(8), r.nextInt(3), r.nextInt(3)); break;
            case 3: case 4: go(m, 82, r.nextInt(8), r.nextInt(2), 0); break;
            case 5: case 6: case 7: go(m, 53, r.nextInt(8), r.nextInt(6), r.nextInt(99)); break;
            case 8: case 9: go(m, 52, r.nextInt(8), r.nextInt(6), r.nextInt(8)); break;
            case 10: go(m, 51, r.nextInt(8), r.nextInt(6), 0); break;
            case 11: if (r.nextInt(3) == 0) x.cut(m, (m + 1) % 3, r.nextInt(3) == 0); else x.link(m, (m + 1) % 3, 1 +
                    r.nextInt(9), pick(0, 0, 1, 3), pick(0, 0, 2, 9)); break;
            case 12: if (r.nextInt(8) == 0) x.crash(m); else x.step(1 + r.nextInt(30)); break;
            default: if (r.nextInt(3) == 0) go(m, pick(20, 22, 80, 83, 84, 67), r.nextInt(8), r.nextInt(4),
                    r.nextInt(6)); else go(m, 27, 0, 1 + r.nextInt(3), s11()); break;
        }
    }
    private static void far() {
        if (x.time() == 0) {
            for (int i = 0; i < 3; i++) x.link(i, (i + 1) % 3, 1 + r.nextInt(9), pick(0, 0, 1, 3), pick(0, 0, 2, 9));
            x.seed(r.nextInt());
            put(0, 28, 0, 11, 3, 85, 1, r.nextInt(3), 1, 8, 1, 0, 0, 1, 7, r.nextInt(30), 0, 30, 0, 0, 0);
            for (int m = 0; m < 3; m++) { x.spawn(m, 0, -1); x.spawn(m, 0, -1); x.spawn(m, 1, -1); }
            for (int m = 0; m < 3; m++) { x.does(m, 0, 61, 0, 0, 511); for (int i = 1; i < 6; i++) { x.does(m, 0, 50,
                    0, i, 7); for (int k = 0; k < r.nextInt(4); k++) { x.does(m, 0, 54, 0, i - 1, r.nextInt(80));
                    x.does(m, 0, 53, 0, i - 1, r.nextInt(99)); } } }
            x.step(50);
            return;
        }
        int m = r.nextInt(3);
        int p = pick(1, 2, 3, 4, 5, 1, 2, 1, 7, 0, 27);
        switch (r.nextInt(16)) {
            case 0: case 1: case 2: case 3: go(m, 85, r.nextInt(6), r.nextInt(3), p); break;
            case 4: case 5: case 6: go(m, 86, r.nextInt(6), r.nextInt(3), p); break;
            case 7: go(m, 1, 7, pick(0, 1, 2, 8, 40, 79, 80, -1), 0); break;
            case 8: go(m, 53, 0, r.nextInt(5), r.nextInt(99)); break;
            case 9: go(m, 54, 0, r.nextInt(5), r.nextInt(81)); break;
            case 10: go(m, 65, 0, p, r.nextInt(81)); break;
            case 11: go(m, 50, 0, p, pick(7, 15, 3, 23)); break;
            case 12: if (r.nextInt(8) == 0) x.crash(m); else x.step(1 + r.nextInt(50)); break;
            case 13: if (r.nextInt(3) == 0) x.cut(m, (m + 1) % 3, r.nextInt(3) == 0); else go(m, pick(56, 59, 61, 68,
                    11, 10), 1, p, pick(1, 2, 3, 0, 511, 292, 438)); break;
            case 14: go(m, pick(83, 84), 1, 1 + r.nextInt(3), r.nextInt(10)); break;
            default: if (r.nextInt(3) == 0) x.spawn(m, r.nextInt(2), 0); else go(m, 27, 0, 1 + r.nextInt(5), pick(11,
                    9, 10)); break;
        }
    }
    private static String word() {
        String s = new String[] {"a", "b", "/a", "/b", "/d", "d/a", "x", "hi", "$x", "$?", "\"$y z\"", "'q $x'",
                "''", "12", "7", "0", "300", "1", "2", "/", "d", "999999999", "1234567890", "a/b/c/d/e/f",
                "a/b/c/d/e/f/g", "A", "$", "\"", "abc'd e'f", "echo", "sh", "cat"}[r.nextInt(r.nextInt(4) == 0 ? 32 :
                26)];
        return s;
    }
    private static String cmd() {
        StringBuilder b = new StringBuilder();
        String c = new String[] {"echo", "cat", "rm", "mkdir", "ln", "mv", "chmod", "ls", "wc", "sleep", "lp",
                "sync", "sh", "1", "2", "3", "04", "x=" + word(), "y=" + word(), "cd", "exit", "fg", "wait", "kill",
                "nope", "16", "echo", "echo", "cat", "ls"}[r.nextInt(30)];
        if (c.equals("exit") && r.nextInt(4) > 0) c = "echo";
        b.append(c);
        int n = c.equals("kill") ? 2 : c.equals("cd") || c.equals("fg") || c.equals("sleep") ? 1 : c.equals("ln") ||
                c.equals("mv") || c.equals("chmod") ? 2 : r.nextInt(3);
        if (r.nextInt(20) == 0) n = r.nextInt(7);
        for (int i = 0; i < n; i++) b.append(' ').append(c.equals("kill") ? "" + r.nextInt(12) : c.equals("fg") ? ""
                + r.nextInt(5) : c.equals("sleep") ? "" + r.nextInt(60) : word());
        while (r.nextInt(4) == 0) b.append(pick(0, 1, 2) == 0 ? "<" : r.nextBoolean() ? ">" : " >> ").append(word());
        return b.toString();
    }
    private static void shell() {
        int m = 0;
        if (x.time() == 0) {
            put(1, 33, pick(3, 20, 60), 0, 0, 22, 1, 0, 0);
            put(2, 22, 2, 0, 0);
            put(3, 52, 1, 0, 2, 9, 1002, 3, 0, 22, 3, 0, 0, 53, 4, 1, 1001, 8, 0, 0, 0);
            put(4, 53, 1, 1, 65, 8, 0, 0, 0);
            x.login(m, 0);
            x.step(1);
            return;
        }
        if (!x.isUp(m)) x.boot(m);
        boolean is = true;
        try { x.login(m, pick(0, 0, 1)); } catch (RuntimeException e) { }
        switch (r.nextInt(12)) {
            case 0: typeLine(m, pick(0, 1) == 0 ? "\u0003" : "\u001a"); break;
            case 1: x.step(1 + r.nextInt(100)); break;
            case 2: typeLine(m, new String[] {"\u0004", "ab\u0004", "\b\b", "\u0015",
                    "0123456789012345678901234567890123456789", "\n"}[r.nextInt(6)]); break;
            case 3: x.step(1 + r.nextInt(20)); break;
            case 4: x.spawn(0, 0, -1); go(m, 27, 0, 1 + r.nextInt(7), pick(9, 10, 11, 2, 3)); break;
            case 5:
                // A script whose last line has no 10 behind it, and writes behind that line, perhaps.
                typeLine(m, pick(0, 1) == 0 ? "echo 'echo " + word() + ">>a'>>a\n" : "echo 'cat b>>a;exit 9'>a\n");
                x.step(1 + r.nextInt(60));
                go(m, 65, 0, 1, r.nextInt(60));
                typeLine(m, "sh a\n");
                x.step(1 + r.nextInt(100));
                break;
            default: {
                StringBuilder b = new StringBuilder(cmd());
                while (r.nextInt(3) == 0 && b.length() < 30) b.append(new String[] {"|", " | ", ";", "&", "&&",
                        " || ", "|| ", "& "}[r.nextInt(8)]).append(cmd());
                if (r.nextInt(5) == 0) b.append(pick(0, 1) == 0 ? "&" : ";");
                String s = b.toString();
                if (r.nextInt(5) == 0) s = "echo '" + s.replace("'", "") + "' >> a";
                if (s.length() > 40) { typeLine(m, s.substring(0, 40)); s = s.substring(40); if (s.length() > 39) s =
                        s.substring(0, 39); }
                typeLine(m, s);
                typeLine(m, "\n");
                x.step(1 + r.nextInt(25));
                if (r.nextInt(3) == 0) x.step(1 + r.nextInt(100));
            }
        }
    }
    private static void spoilAndUse() {
        if (r.nextInt(12) == 0) {
            int m = 0;
            if (x.isUp(m)) { if (r.nextBoolean()) go(m, 64, 0, 0, 0); if (r.nextBoolean()) x.step(40); if (x.isUp(m))
                    x.crash(m); }
            int many = 1 + r.nextInt(6);
            for (int i = 0; i < many; i++) {
                int b = pick(10 + r.nextInt(6), 10 + r.nextInt(6), 30 + r.nextInt(8), 30 + r.nextInt(8), 0, 1, 1, 2 +
                        r.nextInt(8), 10);
                int c = r.nextInt(8);
                int v = b == 1 ? pick(1, 2, 8, 9, 1011, 1099, 3031, 0, 999999, 1000000, -1, 7000, 1069, 1070, 11,
                        900) : b >= 30 ? pick(101, 102, 203, 304, 30, 31, 35, -1, 100 * r.nextInt(22) +
                        r.nextInt(28), 69, 70, 29, 126, 127, 0) : b >= 10 ? new int[] {pick(0, 1, 2, 3, 4, -1),
                        pick(r.nextInt(512), 512 + 7, -1), pick(r.nextInt(50), 50, -1, 49), pick(0, 1, 2, 3, -1),
                        pick(80, 81, -1, r.nextInt(81), 1000, 1, 2, -28), pick(0, 30, 31, 29, 70, 69, r.nextInt(40) +
                        30), pick(0, 30, 33, 32, 70, 69, 34), pick(0, 30, 31, 35, 70, 36, 37)}[c] : r.nextInt();
                x.spoil(m, b, c, v);
            }
            x.faults(m);
            for (int i = 0; i < 12; i++) ask(() -> x.find(m, pick(1, 2, 3, 28, 29, 55, 56)));
            full();
            if (r.nextBoolean()) x.mend(m);
            x.boot(m);
            full();
            return;
        }
        if (r.nextBoolean()) tree(); else bigFiles();
    }
    private static void memory() {
        int m = 0;
        if (x.time() == 0) {
            put(0, 11, 1000, 1000, 0, 2, 0, 1000, pick(1, 7, 8, 9), 6, 1, 1000, 64, 9, 1001, 0, 0, 33, 30, 0, 0, 1,
                    0, 0, 0, 10, 3, 1000, 0, 2, 0, 1000, 8, 6, 1, 1000, 64, 9, 1001, 6, 0, 8, 4, 0, 0);
            put(1, 20, 0, 0, 0, 11, 1000, 1, 0, 11, 1000, 9, 0, 20, 2, 0, 0, 11, 1002, 17, 0, 10, 4, 25, 0, 8, 4, 0, 0);
            return;
        }
        switch (r.nextInt(12)) {
            case 0: x.spawn(m, r.nextInt(3), pick(0, 1, -1)); break;
            case 1: case 2: case 3: go(m, 11, r.nextInt(99), r.nextInt(66) - 1, 0); break;
            case 4: case 5: go(m, 10, r.nextInt(8), r.nextInt(66) - 1, 0); break;
            case 6: go(m, 20, r.nextInt(8), 0, 0); break;
            case 7: go(m, 35, r.nextInt(8), r.nextInt(10), 0); break;
            case 8: go(m, 68, r.nextInt(8), r.nextInt(2), 10 * r.nextInt(9) + r.nextInt(10)); break;
            case 9: go(m, pick(69, 50, 50, 53, 65, 51), r.nextInt(8), pick(1, 2, 3), pick(7, 3, 20, 1)); break;
            case 10: if (r.nextInt(5) == 0) go(m, pick(22, 21), 0, r.nextInt(3), 0); else x.step(1 + r.nextInt(30));
                    break;
            default: go(m, 27, 0, 1 + r.nextInt(9), pick(9, 10, 3)); break;
        }
    }
    private static final int[][] MIX = {
        {81, 82, 52, 53, 51, 81, 82, 52, 53, 80, 67, 20, 53, 52, 33},
        {52, 53, 66, 51, 20, 67, 52, 53, 42, 43, 40, 41, 25, 24, 23, 26},
        {44, 45, 46, 44, 45, 46, 24, 25, 26, 40, 41, 20, 27, 29, 28, 22},
        {50, 52, 53, 54, 55, 56, 57, 59, 64, 65, 68, 69, 10, 11, 85, 86, 61, 60},
        {83, 84, 85, 86, 1, 33, 24, 27, 53, 50, 65, 31, 29},
        {10, 11, 10, 11, 24, 20, 35, 21, 33, 23, 22, 32}};
    private static int[] near(int o) {
        int[] v = operands(o);
        switch (o) {
            case 24: return new int[] {r.nextInt(20), 0};
            case 25: return new int[] {r.nextInt(14), 0};
            case 31: return new int[] {r.nextInt(40), 0};
            case 33: return new int[] {0, 0};
            case 35: return new int[] {r.nextInt(9), 0};
            case 40: case 41: return new int[] {r.nextInt(4), 0};
            case 42: case 43: return new int[] {r.nextInt(3), r.nextInt(9)};
            case 46: return new int[] {1000 + r.nextInt(8), r.nextInt(9)};
            case 21: return new int[] {r.nextInt(10), 0};
            case 81: return new int[] {r.nextInt(3), r.nextInt(3)};
            case 80: case 82: return new int[] {r.nextInt(3), 0};
            default: return v;
        }
    }
    private static void threads() {
        if (x.time() == 0) {
            for (int i = 0; i < 3; i++) x.link(i, (i + 1) % 3, 1 + r.nextInt(5), pick(0, 0, 1), pick(0, 0, 3));
            x.seed(r.nextInt());
            for (int p = 0; p < 10; p++) {
                int[] mix = MIX[r.nextInt(MIX.length)];
                int n = 6 + r.nextInt(16);
                for (int i = 0; i < n; i++) {
                    int o = i < 2 ? pick(24, 80, 28, 24) : r.nextInt(8) == 0 ? pick(8, 30, 33, 24, 9, 99) :
                            mix[r.nextInt(mix.length)];
                    int[] v = near(o);
                    int a = o == 8 ? r.nextInt(n) : o == 33 ? 1 + r.nextInt(9) : o == 11 ? r.nextInt(90) : r.nextInt(8);
                    if (o == 9) v = new int[] {r.nextInt(n), 0};
                    if (o == 28) v = new int[] {1 + r.nextInt(11), r.nextInt(n + 2) - 2};
                    if (o == 9) a = 1000 + r.nextInt(8);
                    x.rows(p, i, o, a, v[0], v[1], -1, 0, 0, 0);
                }
                x.rows(p, n, pick(8, 8, 26, 22), r.nextInt(n), 0, 0, -1, 0, 0, 0);
            }
            for (int m = 0; m < 3; m++) x.spawn(m, 0, -1);
            return;
        }
        int m = r.nextInt(3);
        switch (r.nextInt(12)) {
            case 0: case 1: x.spawn(m, r.nextInt(3), r.nextInt(10)); break;
            case 2: go(m, 27, r.nextInt(8), 1 + r.nextInt(7), s11()); break;
            case 3: go(m, pick(42, 43, 44, 80, 81, 82, 84, 85), r.nextInt(8), r.nextInt(4), r.nextInt(6)); break;
            case 4: x.upgrade(m, 1 + r.nextInt(6), r.nextInt(10)); break;
            case 5: x.rows(r.nextInt(10), r.nextInt(12), OPS[r.nextInt(OPS.length)], r.nextInt(9), r.nextInt(9),
                    r.nextInt(9), -1, 0, 0, 0); break;
            case 6: if (r.nextInt(20) == 0) x.crash(m); else if (!x.isUp(m)) x.boot(m); else x.step(1 +
                    r.nextInt(30)); break;
            default: x.step(1 + r.nextInt(8)); break;
        }
    }

    // ---- scenes that go deep into one thing, where calls of all kinds seldom come ----

    /** Tells a row to a driven thread of a machine, if one waits for that. */
    private static void tellOne(int m, int op, int a, int b, int c) {
        int t = driven(m);
        if (t >= 0) {
            x.tell(m, t, op, a, b, c);
        }
    }

    private static void links(int loss, int twice) {
        for (int i = 0; i < 3; i++) {
            x.link(i, (i + 1) % 3, 1 + r.nextInt(9), pick(0, 0, 1, loss), pick(0, 0, 2, twice));
        }
        x.seed(r.nextInt());
    }

    private static void putRandom(int[] w, int from, int to, int[][] rows) {
        for (int i = from; i < to; i++) {
            System.arraycopy(rows[r.nextInt(rows.length)], 0, w, 4 * i, 4);
        }
    }

    /** Programs that go to rows for several signals, and are sent several at once. */
    private static void manySignalsFirst() {
        for (int p = 0; p < 6; p++) {
            int[] w = new int[4 * 20];
            int many = 2 + r.nextInt(6);
            for (int i = 0; i < 10; i++) {
                int[] row = {2, 5, 1005, 1};
                if (i < many) {
                    row = new int[] {28, 1, s11(), pick(12, 12, 12, 14, 16, -2)};
                } else if (r.nextInt(4) == 0) {
                    int[][] rows = {{29, 1, r.nextInt(4096), 0}, {24, 1, 10, 0}, {31, 1, r.nextInt(40), 0}};
                    row = rows[r.nextInt(3)];
                }
                System.arraycopy(row, 0, w, 4 * i, 4);
            }
            putRandom(w, 10, 11, new int[][] {{43, 2, 0, 0}, {45, 2, 0, 3}, {23, 2, 0, 0}, {33, 20, 0, 0},
                {40, 2, 1, 0}});
            w[44] = 8;
            w[45] = 10;
            putRandom(w, 12, 20, new int[][] {{43, 4, 1, 0}, {29, 4, r.nextInt(4096), 0},
                {28, 4, s11(), pick(-1, -2, 12)}, {20, 3, 0, 0}, {33, pick(1, 30), 0, 0},
                {27, 4, pick(1, 2, 3, 4), s11()}, {21, 4, r.nextInt(6), 0},
                {99, 0, 0, 0}, {5, 4, 1, 0}, {26, 3, 0, 0}, {43, 4, 1, 0}, {30, 0, 0, 0}, {30, 0, 0, 0}});
            put(p, w);
        }
        for (int i = 0; i < 4; i++) {
            x.spawn(0, 0, -1);
        }
        x.does(0, 0, 20, 0, 0, 0);
        x.does(0, 1, 20, 0, 0, 0);
    }

    private static void manySignals() {
        if (x.time() == 0) {
            manySignalsFirst();
            return;
        }
        switch (r.nextInt(12)) {
            case 0: x.spawn(0, 0, r.nextInt(6)); break;
            case 1: case 2: case 3: case 4:
                for (int i = 0; i < 6; i++) {
                    tellOne(0, 27, 7, 1 + r.nextInt(9), pick(s11(), s11(), s11(), 9, 10));
                    if (r.nextInt(4) == 0) {
                        x.step(1);
                    }
                }
                x.step(1 + r.nextInt(4));
                break;
            case 5: go(0, 42, 0, r.nextInt(2), 1); break;
            case 6: x.upgrade(0, 1 + r.nextInt(9), r.nextInt(6)); break;
            case 7: go(0, 29, r.nextInt(8), pick(-1, 0, r.nextInt(4096), r.nextInt(4096)), 0); break;
            case 8: go(0, pick(20, 20, 21, 22, 23, 44, 40, 41, 31), r.nextInt(8), pick(0, 1, 2, 3, 5), 3); break;
            case 9:
                x.rows(r.nextInt(6), 12 + r.nextInt(8), pick(43, 30, 29, 28, 21, 99, 33, 27, 20, 26), r.nextInt(5),
                    pick(0, 1, 2, s11(), r.nextInt(4096)), pick(-1, -2, 12, s11()), -1, 0, 0, 0);
                break;
            default: x.step(1 + r.nextInt(10)); break;
        }
    }

    private static void typeAndStep(String line, int most) {
        typeLine(0, line.substring(0, Math.min(39, line.length())) + "\n");
        x.step(1 + r.nextInt(most));
    }

    private static void shellIsThere() {
        if (!x.isUp(0)) {
            x.boot(0);
        }
        ask(() -> x.login(0, pick(0, 0, 1)));
    }

    /** A line of many pipes, in front and behind. */
    private static String manyPipes() {
        StringBuilder b = new StringBuilder();
        for (int i = r.nextInt(4); i >= 0; i--) {
            b.append(pick(1, 1, 2, 3, 4, 5, 5, 6, 1));
            if (r.nextInt(8) == 0) {
                b.append(pick(0, 1) == 0 ? "<a" : ">>b");
            }
            String[] signs = {"|", "&", "&", ";", "&&", "||", "&"};
            b.append(i > 0 || r.nextInt(3) == 0 ? signs[r.nextInt(7)] : pick(0, 1) == 0 ? "&" : "");
        }
        return b.toString();
    }

    private static void jobs() {
        if (x.time() == 0) {
            put(1, 33, pick(3, 20, 60), 0, 0, 8, 0, 0, 0);
            put(2, 33, pick(1, 4), 0, 0, 22, 7, 0, 0);
            put(3, 52, 1, 0, 2, 9, 1002, 3, 0, 22, 3, 0, 0, 53, 4, 1, 1001, 8, 0, 0, 0);
            put(4, 53, 1, 1, 65, 33, 2, 0, 0, 8, 0, 0, 0);
            put(5, 28, 0, pick(9, 10, 2, 5), 4, 28, 0, 10, pick(-2, 4), 33, 5, 0, 0, 8, 2, 0, 0, 30, 0, 0, 0);
            put(6, 20, 0, 0, 0, 33, 6, 0, 0, 22, 9, 0, 0);
            x.login(0, 0);
            x.spawn(0, 0, -1);
            x.step(1);
            return;
        }
        shellIsThere();
        switch (r.nextInt(14)) {
            case 0: typeLine(0, "\u0003"); break;
            case 1: case 2:
                typeLine(0, "\u001a");
                x.step(1 + r.nextInt(3));
                break;
            case 3: case 4: case 5: x.step(1 + r.nextInt(8)); break;
            case 6: go(0, 27, 0, 1 + r.nextInt(9), pick(9, 10, 3, 2, 11)); break;
            case 7: typeAndStep("fg " + (1 + r.nextInt(4)), 5); break;
            case 8: typeAndStep("kill " + pick(9, 10, 3, 1) + " " + (1 + r.nextInt(9)), 5); break;
            case 9: typeAndStep(pick(0, 1) == 0 ? "wait" : "echo $?>>a;cd /;x=$?", 5); break;
            default: typeAndStep(manyPipes(), 9); break;
        }
    }

    private static void keys() {
        if (x.time() == 0) {
            put(3, 52, 1, 0, 2, 9, 1002, 3, 0, 22, 3, 0, 0, 53, 4, 1, 1001, 8, 0, 0, 0);
            put(4, 24, 1, 1, 0, 52, 1, 0, 2, 42, 3, 0, 1001, 8, 1, 0, 0);
            put(5, 28, 0, 2, 3, 52, 1, 0, 2, 8, 1, 0, 0, 2, 5, 1005, 1, 30, 0, 0, 0);
            x.login(0, 0);
            x.step(1);
            return;
        }
        shellIsThere();
        String[] lines = {"3", "4", "5", "cat", "3|cat", "cat>a&", "wc", "lp", "3&4"};
        switch (r.nextInt(8)) {
            case 0: x.step(1 + r.nextInt(20)); break;
            case 1: typeAndStep(lines[r.nextInt(9)], 9); break;
            case 2: x.type(0, r.nextLong(), r.nextLong(), r.nextLong(), r.nextLong(), r.nextLong()); break;
            default:
                StringBuilder b = new StringBuilder();
                for (int i = r.nextInt(40); i > 0; i--) {
                    b.append((char) pick(4, 8, 21, 10, 3, 26, 31, 127, 32, 65, 97, 98, 55, 126, 97, 97, 97, 97, 97, 97,
                        97, 97, 10, 4));
                }
                typeLine(0, b.toString());
                if (r.nextInt(3) == 0) {
                    x.step(1 + r.nextInt(6));
                }
                break;
        }
    }

    private static void names() {
        if (x.time() == 0) {
            links(5, 9);
            put(0, 28, 0, 11, 4, 84, 1, 1 + r.nextInt(3), 0, pick(83, 84, 0), 2, 1, 5, 8, 1, 0, 0, 2, 5, 1005, 1,
                30, 0, 0, 0);
            for (int m = 0; m < 3; m++) {
                x.spawn(m, 0, -1);
                x.spawn(m, 0, -1);
                x.spawn(m, 1, 0);
            }
            return;
        }
        int m = r.nextInt(3);
        switch (r.nextInt(10)) {
            case 0: case 1: go(m, 84, r.nextInt(8), 1 + r.nextInt(4), 0); break;
            case 2: go(m, 83, r.nextInt(8), 1 + r.nextInt(4), r.nextInt(11)); break;
            case 3: x.step(1 + r.nextInt(60)); break;
            case 4: x.step(1 + r.nextInt(6)); break;
            case 5: x.cut(m, (m + 1) % 3, r.nextInt(2) == 0); break;
            case 6: go(m, 27, 0, 1 + r.nextInt(4), pick(11, 11, 9, 10)); break;
            case 7: tellOne(m, pick(83, 84), 1, 1 + r.nextInt(4), r.nextInt(9)); break;
            case 8:
                if (r.nextInt(3) == 0) {
                    x.crash(m);
                }
                break;
            default: x.named(1 + r.nextInt(4)); break;
        }
    }

    private static void manyLeasesFirst() {
        links(2, 5);
        put(0, 28, 0, 11, 4, 1, 7, r.nextInt(20), 0, 85, 1, r.nextInt(3), 1, 8, 2, 0, 0, 2, 5, 1005, 1, 30, 0, 0, 0);
        put(1, 28, 0, 11, 5, 1, 6, 77, 0, 1, 7, r.nextInt(20), 0, 86, 1, r.nextInt(3), 1, 8, 2, 0, 0, 2, 5, 1005, 1,
            30, 0, 0, 0);
        for (int m = 0; m < 3; m++) {
            for (int i = 0; i < 3; i++) {
                x.spawn(m, 0, -1);
            }
        }
        for (int m = 0; m < 2; m++) {
            x.does(m, 0, 61, 0, 0, 511);
            for (int i = 1; i < 7; i++) {
                x.does(m, 0, 50, 0, i, 7);
                x.does(m, 0, 53, 0, r.nextInt(i), i);
            }
        }
        x.step(30);
    }

    private static void manyLeases() {
        if (x.time() == 0) {
            manyLeasesFirst();
            return;
        }
        int m = r.nextInt(3);
        int p = pick(1, 2, 3, 4, 5, 6, 1, 1);
        switch (r.nextInt(15)) {
            case 0: case 1: case 2: case 3: case 4:
                tellOne(m, pick(85, 85, 86), r.nextInt(6), r.nextInt(2), p);
                if (r.nextBoolean()) {
                    x.step(1 + r.nextInt(3));
                }
                break;
            case 5: go(m, 1, 7, pick(0, 1, 2, 8, 15), 0); break;
            case 6: case 7: tellOne(r.nextInt(2), 53, 0, r.nextInt(6), r.nextInt(99)); break;
            case 8: go(r.nextInt(2), 65, 0, p, r.nextInt(20)); break;
            case 9: go(r.nextInt(2), 50, 0, p, pick(7, 15, 15)); break;
            case 10: x.step(1 + r.nextInt(8)); break;
            case 11:
                if (r.nextInt(12) == 0) {
                    x.crash(m);
                }
                x.step(1 + r.nextInt(20));
                break;
            case 12: x.cut(m, (m + 1) % 3, r.nextInt(4) == 0); break;
            case 13: go(m, pick(68, 11, 10, 51, 56), 1, pick(0, 1, 9, 2), pick(0, 10, 1)); break;
            default:
                if (r.nextInt(3) == 0) {
                    x.spawn(m, r.nextInt(2), r.nextInt(2));
                } else {
                    go(m, 27, 0, 1 + r.nextInt(9), pick(11, 11, 11, 9, 10, 3));
                }
                break;
        }
    }

    /** Connections that are written full, and closed, over links that are cut for a while. */
    private static void closings() {
        if (x.time() == 0) {
            links(1, 5);
            put(0, 80, 0, 4, 0, 82, 1, 4, 0, 52, 2, 1001, 3, 53, 4, 1001, 1002, 9, 1003, 2, 0, 51, 0, 1001, 0,
                8, 1, 0, 0);
            put(1, 28, 0, 11, 7, 81, 1, r.nextInt(3), 4, 53, 2, 1001, 7, 53, 2, 1001, 8, 52, 3, 1001, 4,
                51, 5, 1001, 0, 8, 1, 0, 0, 30, 0, 0, 0);
            for (int m = 0; m < 3; m++) {
                x.spawn(m, 0, -1);
                x.spawn(m, 0, -1);
                x.does(m, 0, 80, 0, 0, 0);
                x.spawn(m, 0, pick(0, 1, -1));
            }
            return;
        }
        int m = r.nextInt(3);
        switch (r.nextInt(14)) {
            case 0: case 1:
                tellOne(m, pick(81, 82), r.nextInt(8), r.nextInt(3), pick(0, 0, 4, 2));
                x.step(1 + r.nextInt(9));
                break;
            case 2: case 3: case 4: case 5: case 6:
                tellOne(m, pick(53, 53, 53, 52), r.nextInt(8), r.nextInt(3), r.nextInt(8));
                x.step(1);
                break;
            case 7: case 8: go(m, 51, r.nextInt(8), r.nextInt(3), 0); break;
            case 9: x.cut(m, (m + 1) % 3, r.nextInt(2) == 0); break;
            case 10: x.step(1 + r.nextInt(100)); break;
            case 11:
                if (r.nextInt(4) == 0) {
                    x.crash(m);
                    x.step(1 + r.nextInt(30));
                    x.boot(m);
                    x.spawn(m, 0, -1);
                    x.does(m, 0, 80, 0, 0, 0);
                }
                break;
            case 12: go(m, pick(20, 22, 67), r.nextInt(8), r.nextInt(3), r.nextInt(6)); break;
            default: go(m, 27, 0, 1 + r.nextInt(5), pick(11, 11, 9, 10, 3)); break;
        }
    }

    private static void writeSome(int m) {
        int f = r.nextInt(6);
        go(m, 54, r.nextInt(8), f, 8 * r.nextInt(10));
        for (int i = r.nextInt(3); i >= 0; i--) {
            go(m, 53, r.nextInt(8), f, r.nextInt(200));
        }
    }

    /** A machine that changes files falls down again and again. */
    private static void crashes() {
        switch (r.nextInt(12)) {
            case 0: case 1: go(0, 50, r.nextInt(8), 1 + r.nextInt(12), pick(7, 7, 15, 22)); break;
            case 2: go(0, 51, r.nextInt(8), r.nextInt(6), 0); break;
            case 3: case 4: writeSome(0); break;
            case 5: go(0, 65, r.nextInt(8), 1 + r.nextInt(8), r.nextInt(82)); break;
            case 6: tellOne(0, 64, r.nextInt(8), 0, 0); break;
            case 7: x.step(1 + r.nextInt(12)); break;
            case 8:
                if (r.nextInt(3) == 0) {
                    x.crash(0);
                    x.step(1 + r.nextInt(9));
                    x.boot(0);
                    x.isWhole(0);
                    full();
                }
                break;
            case 9: go(0, pick(55, 58, 57, 59), r.nextInt(8), 1 + r.nextInt(12), 1 + r.nextInt(12)); break;
            case 10: go(0, 56, r.nextInt(8), 1 + r.nextInt(12), 0); break;
            default:
                tellOne(0, 53, r.nextInt(8), r.nextInt(6), r.nextInt(99));
                x.step(1 + r.nextInt(2));
                break;
        }
    }

    private static void quotas() {
        if (x.time() == 0) {
            for (int u : new int[] {0, 1, 1, 2, 4}) {
                x.spawn(0, u, -1);
            }
            x.does(0, 0, 61, 0, 0, 511);
            return;
        }
        int p = pick(1, 2, 3, 28, 29, 55);
        int q = pick(1, 2, 4, 5, 28, 29, 30);
        switch (r.nextInt(12)) {
            case 0:
                x.user(1 + r.nextInt(4), r.nextInt(8), 1 + r.nextInt(9), pick(0, 1, 2, 3, 5, 8, 40),
                    pick(0, 1, 2, 3, 20));
                break;
            case 1: case 2: go(0, 50, r.nextInt(8), p, pick(7, 7, 15, 22, 3)); break;
            case 3: case 4: writeSome(0); break;
            case 5: go(0, 62, r.nextInt(8), p, 10 * r.nextInt(5) + r.nextInt(3)); break;
            case 6: go(0, 55, r.nextInt(8), q, 0); break;
            case 7: go(0, 61, r.nextInt(8), pick(0, p), pick(511, 511, 493, 448, 438, 292, 73)); break;
            case 8: go(0, 58, r.nextInt(8), q, pick(1, 2, -1, -2, 28)); break;
            case 9: go(0, pick(56, 59, 57, 63, 70), r.nextInt(8), pick(p, 4), pick(1, 2, 3, 4, 28, 29, 55)); break;
            case 10: go(0, 65, r.nextInt(8), p, r.nextInt(81)); break;
            default: x.step(1 + r.nextInt(9)); break;
        }
    }

    /** Programs that are changed as they serve, and fail behind that. */
    private static void takenBackFirst() {
        for (int p = 0; p < 8; p++) {
            int[] w = new int[4 * 16];
            putRandom(w, 0, 6, new int[][] {{28, 1, s11(), 12}, {28, 1, s11(), 13}, {29, 1, pick(0, 16, 256, 272), 0},
                {24, 1, 6, 0}, {31, 1, r.nextInt(30), 0}, {40, 1, 2, 0}, {80, 1, p % 3, 0}, {50, 1, 1, 7},
                {11, 5, 9, 0}, {0, 0, 0, 0}, {9, 1007, 10, 0}, {20, 1, 0, 0}});
            putRandom(w, 6, 7, new int[][] {{43, 2, r.nextInt(2), 0}, {45, 2, 0, 3}, {82, 2, p % 3, 0}, {43, 2, 0, 0}});
            putRandom(w, 7, 11, new int[][] {{99, 0, 0, 0}, {5, 1, 1, 0},
                {27, 1, pick(1, 2, 3, 4), pick(4, 8, 8, 4, 11)}, {46, 1, 1003, 1002}, {0, 0, 0, 0}, {0, 0, 0, 0},
                {33, pick(1, 5, 17, 18, 19, 20, 21), 0, 0},
                {10, 1, 70, 0}, {29, 1, 0, 0}, {22, 5, 0, 0}, {26, 5, 0, 0}, {8, 99, 0, 0}});
            w[44] = 8;
            w[45] = 6;
            putRandom(w, 12, 15, new int[][] {{30, 0, 0, 0}, {43, 4, 1, 0}, {99, 0, 0, 0}, {29, 4, r.nextInt(4096), 0},
                {45, 4, 0, 5}});
            w[60] = 30;
            put(p, w);
        }
        for (int i = 0; i < 6; i++) {
            x.spawn(0, 0, i < 3 ? r.nextInt(8) : -1);
        }
    }

    private static void takenBack() {
        if (x.time() == 0) {
            takenBackFirst();
            return;
        }
        switch (r.nextInt(11)) {
            case 0: x.spawn(0, 0, r.nextInt(8)); break;
            case 1: case 2: x.upgrade(0, 1 + r.nextInt(9), r.nextInt(8)); break;
            case 3: tellOne(0, 44, r.nextInt(8), 1 + r.nextInt(6), r.nextInt(9)); break;
            case 4: case 5: go(0, 42, 0, r.nextInt(2), 1); break;
            case 6: go(0, 27, r.nextInt(8), 1 + r.nextInt(7), pick(s11(), 4, 8, 11, 9, 10)); break;
            case 7: go(0, 81, r.nextInt(8), 0, r.nextInt(3)); break;
            default: x.step(1 + r.nextInt(8)); break;
        }
    }

    /** Pages that are mapped, of files that are cut, taken away, and written by others, too. */
    private static void maps() {
        if (x.time() == 0) {
            x.does(0, x.spawn(0, 0, -1) - 1, 61, 0, 0, 511);
            for (int u : new int[] {0, 1, 1}) {
                x.spawn(0, u, -1);
            }
            x.spawn(1, 0, -1);
            x.user(1, 0, 1, pick(0, 1, 2, 3, 40), 20);
            for (int t = 0; t < 4; t++) {
                x.does(0, t, 50, 0, 1 + t % 2, 7);
                x.does(0, t, 61, 0, 1 + t % 2, 511);
                x.does(0, t, 68, 0, 0, 10 * t + t % 2);
            }
            return;
        }
        int page = r.nextInt(4);
        switch (r.nextInt(16)) {
            case 0: go(0, 68, r.nextInt(8), r.nextInt(2), 10 * page + pick(0, 0, 1, 2, 9)); break;
            case 1: go(0, 69, r.nextInt(8), page, 0); break;
            case 2: case 3: case 4: case 5: go(0, 11, r.nextInt(99), 8 * page + pick(0, 1, 7), 0); break;
            case 6: case 7: go(0, 10, r.nextInt(8), 8 * page + pick(0, 1, 7), 0); break;
            case 8: go(0, 65, r.nextInt(8), 1 + r.nextInt(2), pick(0, 1, 8, 9, 16, 40)); break;
            case 9: go(0, pick(53, 51), r.nextInt(8), 0, r.nextInt(99)); break;
            case 10: go(0, 56, r.nextInt(8), 1 + r.nextInt(2), 0); break;
            case 11: go(0, 50, r.nextInt(8), 1 + r.nextInt(2), pick(7, 7, 15, 3)); break;
            case 12: go(0, pick(20, 20, 21, 22), r.nextInt(8), 0, 0); break;
            case 13: tellOne(1, 85, r.nextInt(6), 0, 1 + r.nextInt(2)); break;
            case 14:
                for (int i = 0; i < 9; i++) {
                    go(0, 50, 7, 11 + i, 7);
                    go(0, 53, 7, 1007, 1);
                    go(0, 51, 6, 1007, 0);
                }
                break;
            default: x.step(1 + r.nextInt(30)); break;
        }
    }

    /** Calls for connections where file numbers, or open files, or ends, are not left. */
    private static void noneLeft() {
        if (x.time() == 0) {
            for (int m = 0; m < 2; m++) {
                for (int i = 0; i < 4; i++) {
                    x.spawn(m, 0, -1);
                }
                x.does(m, 0, 80, 0, 0, 0);
                x.does(m, 1, 80, 0, 1, 0);
            }
            put(0, 24, 0, 3, 0, 81, 1, r.nextInt(2), 0, 8, 1, 0, 0, 66, 1, 0, 0, 50, 2, 1, 7, 33, 2, 0, 0, 8, 3, 0, 0);
            return;
        }
        int m = r.nextInt(2);
        switch (r.nextInt(13)) {
            case 0: case 1: case 2: go(m, 66, r.nextInt(8), 0, 0); break;
            case 3: case 4: case 5:
                tellOne(m, 81, r.nextInt(8), r.nextInt(2), r.nextInt(2));
                tellOne(m, pick(66, 82), r.nextInt(8), r.nextInt(2), 0);
                x.step(1 + r.nextInt(4));
                break;
            case 6: case 7: go(m, 82, r.nextInt(8), r.nextInt(2), 0); break;
            case 8: go(m, 50, r.nextInt(8), 1 + r.nextInt(3), 7); break;
            case 9: go(m, 51, r.nextInt(8), r.nextInt(6), 0); break;
            case 10: go(m, pick(67, 20), r.nextInt(8), r.nextInt(6), r.nextInt(6)); break;
            case 11:
                if (r.nextInt(3) == 0) {
                    x.spawn(m, 0, 0);
                } else {
                    go(m, pick(22, 27), 0, 2 + r.nextInt(6), pick(9, 3, 10));
                }
                break;
            default: x.step(1 + r.nextInt(20)); break;
        }
    }

    /** A disc without free blocks, and directories of 80 cells. */
    private static void full(int m) {
        if (x.time() == 0) {
            for (int u : new int[] {0, 0, 1}) {
                x.spawn(m, u, -1);
            }
            x.does(m, 0, 61, 0, 0, 511);
            for (int i = 1; i < 5; i++) {
                x.does(m, 0, 50, 0, i, 7);
                x.does(m, 0, 61, 0, i, 511);
            }
            for (int i = 0; i < 32; i++) {
                x.does(m, 0, 54, 0, i / 8, 8 * (i % 8) + 8);
                x.does(m, 0, 53, 0, i / 8, i);
            }
            x.does(m, 0, 55, 0, 27, 0);
            return;
        }
        int p = 1 + r.nextInt(6);
        switch (r.nextInt(12)) {
            case 0: case 1: case 2:
                int f = r.nextInt(4);
                go(m, 54, r.nextInt(8), f, 8 * r.nextInt(10) + r.nextInt(8));
                go(m, 53, r.nextInt(8), f, r.nextInt(99));
                break;
            case 3:
                go(m, 65, 0, p, pick(0, 8, 70));
                break;
            case 4: go(m, 50, r.nextInt(8), p, pick(7, 15)); break;
            case 5: case 6: case 7:
                for (int i = 0; i < 12; i++) {
                    go(m, 57, r.nextInt(8), p, pick(0, 1) * 27 * 27 + 1 + r.nextInt(26));
                }
                break;
            case 8: go(m, 55, r.nextInt(8), 1 + r.nextInt(26), 0); break;
            case 9: go(m, pick(56, 59), r.nextInt(8), 1 + r.nextInt(26), 1 + r.nextInt(26)); break;
            case 10: go(m, 62, 0, p, 10 * r.nextInt(3)); break;
            default: x.step(1 + r.nextInt(20)); break;
        }
    }

    private static void mixed() {
        int s = scene;
        scene = r.nextInt(9);
        try { tellSomething(); } finally { scene = s; }
    }

    /** A machine falls down, its disc is spoiled, and is mended by a call or by the start. */
    private static void spoilSome() {
        int m = r.nextInt(3);
        if (x.isUp(m)) {
            x.crash(m);
        }
        int many = 1 + r.nextInt(8);
        for (int i = 0; i < many; i++) {
            int block = pick(0, 1, 10, 11, 12, 13, 14, 10 + r.nextInt(20), 30 + r.nextInt(6), r.nextInt(70));
            int cell = r.nextInt(8);
            int value = pick(0, 1, 2, 3, 9, 30, 31, 32, 33, 81, 101, 102, 205, 427, 1901, 2001, -1, r.nextInt(300),
                r.nextInt());
            x.spoil(m, block, cell, value);
            x.faults(m);
            if (r.nextInt(4) == 0) {
                askSomething();
            }
        }
        if (r.nextBoolean()) {
            x.mend(m);
            if (x.faults(m) != 0 || x.mend(m) != 0) {
                wrong++;
                System.out.println("a mended disc has faults");
            }
        }
        x.boot(m);
        if (x.faults(m) != 0) {
            wrong++;
            System.out.println("a started disc has faults");
        }
    }

    private static void askSomething() {
        int m = machine();
        int n = r.nextInt(12) - 1;
        char what = "pugvdsxmwrltfhcabnoi".charAt(r.nextInt(20));
        switch (r.nextInt(26)) {
            case 0: x.process(m, n, what); break;
            case 1: x.thread(m, n, what); break;
            case 2: x.register(m, n, r.nextInt(9)); break;
            case 3: x.waits(m, n, "snt".charAt(r.nextInt(3))); break;
            case 4: x.ran(m); x.load(m, n); break;
            case 5: x.page(m, n, r.nextInt(8)); x.pageAt(m, n, r.nextInt(9)); break;
            case 6: x.frame(m, n, what); break;
            case 7: x.cell(m, n, r.nextInt(65)); break;
            case 8: x.lock(m, n, "hbw".charAt(r.nextInt(3))); break;
            case 9: x.queue(m, n, r.nextInt(4)); break;
            case 10: x.deadlocked(m); x.isWhole(m); break;
            case 11: x.find(m, small()); break;
            case 12: x.inode(m, r.nextInt(20), r.nextInt(8)); x.content(m, r.nextInt(4), r.nextInt(9)); break;
            case 13: x.block(m, r.nextInt(82), r.nextInt(8)); x.held(m, 30 + r.nextInt(40)); break;
            case 14: x.log(m, "onsp".charAt(r.nextInt(4))); break;
            case 15: x.fault(m, r.nextInt(3), r.nextBoolean()); break;
            case 16: x.disc(m, "aqlb".charAt(r.nextInt(4))); break;
            case 17: x.shown(m, r.nextInt(200)); break;
            case 18: x.printed(m, r.nextInt(20)); break;
            case 19: x.keys(m, r.nextBoolean()); x.packets(m); break;
            case 20: x.end(m, n, "simorbx".charAt(r.nextInt(7))); break;
            case 21: x.named(r.nextInt(27)); break;
            case 22: x.leases(m, r.nextInt(20)); x.copies(m); break;
            case 23: x.status(m, n); x.job(m, n, r.nextInt(5)); break;
            case 24: x.variable(m, n, (char) ('a' + r.nextInt(26)), r.nextInt(3)); break;
            default: x.event(r.nextInt(120), "tmsn".charAt(r.nextInt(4))); x.account(m, r.nextInt(5), 't'); break;
        }
    }

    private static boolean isDocumented(RuntimeException e) {
        Class<?> c = e.getClass();
        return c == IllegalArgumentException.class || c == UnsupportedOperationException.class
            || c == IndexOutOfBoundsException.class || c == IllegalStateException.class
            || c == NoSuchElementException.class || c == ArithmeticException.class;
    }

    static boolean verbose;
    interface Q { Object get(); }
    static void ask(Q q) { try { q.get(); } catch (RuntimeException e) { } }
    static void lite() {
        x.checksum(); x.events(); x.time();
        for (int m = 0; m < 3; m++) {
            int mm = m;
            ask(() -> x.ran(mm));
            ask(() -> x.deadlocked(mm));
            x.packets(m);
            for (char w : "onsp".toCharArray()) ask(() -> x.log(mm, w));
            for (char w : "aqlb".toCharArray()) ask(() -> x.disc(mm, w));
        }
    }
    static void full() {
        for (int i = 0; i < x.events(); i++) for (char w : "tmsn".toCharArray()) x.event(i, w);
        for (int m = 0; m < 3; m++) {
            int mm = m;
            x.isUp(m); x.isWhole(m); x.faults(m);
            for (int i = 0; i < x.faults(m); i++) { x.fault(m, i, true); x.fault(m, i, false); }
            for (int u = 0; u < 5; u++) { int uu = u; ask(() -> x.load(mm, uu)); for (char w : "tfrwn".toCharArray())
                    x.account(m, u, w); }
            for (int i = 0; i < 20; i++) for (int c = 0; c < 8; c++) x.inode(m, i, c);
            for (int b = 0; b < 82; b++) for (int c = 0; c < 8; c++) x.block(m, b, c);
            for (int i = 0; i < 20; i++) if (x.inode(m, i, 0) != 0) for (int c = 0; c < 80; c += 1) { int ii = i, cc
                    = c; ask(() -> x.content(mm, ii, cc)); if (x.inode(m, i, 4) <= c) break; }
            for (int i = 0; i < 200; i++) { int ii = i; try { x.shown(m, i); } catch (RuntimeException e) { break; } }
            for (int i = 0; i < 200; i++) { int ii = i; try { x.printed(m, i); } catch (RuntimeException e) { break; } }
            ask(() -> x.meanAge(mm));
            ask(() -> x.busyShare(mm));
            if (!x.isUp(m)) continue;
            for (int b = 30; b < 70; b++) x.held(m, b);
            x.keys(m, true); x.keys(m, false); x.copies(m);
            for (int i = 0; i < 20; i++) x.leases(m, i);
            for (int e = 0; e < 6; e++) { int ee = e; try { x.end(m, e, 's'); } catch (RuntimeException z) {
                    continue; } for (char w : "imorbx".toCharArray()) x.end(m, e, w); }
            for (int l = 0; l < 6; l++) for (char w : "hbw".toCharArray()) x.lock(m, l, w);
            for (int q = 0; q < 4; q++) for (int i = 0; i < 4; i++) { int qq = q, ii = i; try { x.queue(mm, qq, ii);
                    } catch (RuntimeException e) { break; } }
            for (int f = 0; f < 8; f++) for (char w : "apbcg".toCharArray()) x.frame(m, f, w);
            for (int t = 0; t < 14; t++) {
                int tt = t;
                try { x.thread(m, t, 'p'); } catch (RuntimeException e) { continue; }
                for (char w : "rsv".toCharArray()) ask(() -> x.thread(mm, tt, w));
                try { x.waits(m, t, 's'); x.waits(m, t, 'n'); x.waits(m, t, 't'); } catch (RuntimeException e) { }
            }
            for (int p = 0; p < 10; p++) {
                int pp = p;
                try { x.process(m, p, 'p'); } catch (RuntimeException e) { continue; }
                for (char w : "ugvdsxmwrltfhc".toCharArray()) ask(() -> x.process(mm, pp, w));
                for (int g = 0; g < 8; g++) { int gg = g; x.page(m, p, g); ask(() -> x.pageAt(mm, pp, gg)); }
                for (int g = 0; g < 64; g++) if (x.page(m, p, g / 8) != 'n') x.cell(m, p, g);
                try { x.status(m, p); } catch (RuntimeException e) { continue; }
                for (int j = 0; j < 5; j++) x.job(m, p, j);
                for (char c = 'a'; c <= 'z'; c++) for (int i = 0; i < 41; i++) { try { x.variable(m, p, c, i); }
                        catch (RuntimeException e) { break; } }
            }
        }
        for (int n = 1; n < 27; n++) { int nn = n; ask(() -> x.named(nn)); }
        x.isSound();
    }

    public static void main(String[] args) {
        int runs = args.length > 0 ? Integer.parseInt(args[0]) : 420;
        int first = args.length > 1 ? Integer.parseInt(args[1]) : 0;
        verbose = args.length > 2;
        for (int run = first; run < first + runs; run++) {
            r = new Random(run);
            both = new Both();
            x = both.works;
            theme = run % 8 == 7 ? OPS : THEMES[run % 8];
            scene = run % SCENES;
            for (int call = 0; call < 500; call++) {
                try {
                    if (r.nextInt(12) > 0) {
                        tellSomething();
                    } else {
                        askSomething();
                    }
                    lite();
                    if (call % 40 == 39) full();
                } catch (Both.Differs e) {
                    wrong++;
                    System.out.println("run " + run + ", call " + call + ": " + e.getMessage());
                    if (verbose) for (String s : both.told) System.out.println("   " + s);
                    break;
                } catch (RuntimeException e) {
                    if (!isDocumented(e)) {
                        wrong++;
                        System.out.println("run " + run + ", call " + call + ": " + e);
                        e.printStackTrace(System.out);
                    }
                }
                if (call % 25 == 24 && !x.isSound()) {
                    wrong++;
                    System.out.println("run " + run + ", call " + call + ": not sound");
                    break;
                }
                if (call % 60 == 59 && x.time() <= 300) {
                    try {
                        if (!x.isReplayed()) {
                            wrong++;
                            System.out.println("run " + run + ", call " + call + ": not replayed");
                        }
                    } catch (IllegalStateException e) {
                        continue;
                    }
                }
            }
            if (wrong > 5) {
                break;
            }
        }
        System.out.println(wrong == 0 ? runs + " random runs are as promised" : wrong + " faults");
        if (wrong > 0) {
            System.exit(1);
        }
    }
}
