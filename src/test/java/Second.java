import java.util.*;

/**
 * The document written down once more, in another manner and for tests alone: what both answer is compared over random
 * runs (BothTest). It makes as many objects as it likes, waits by an exception, and writes files over a copy of cells.
 */
final class Second implements Works {
    int T;
    int z;
    final List<List<int[]>> prog = new ArrayList<>();
    final int[][] usr = new int[5][];
    static final class Link { int delay = 3, loss, twice; boolean cut; }
    final Link[] links = {new Link(), new Link(), new Link()};
    static final class Pk { int at, to, from; char kind; int[] v; int[] data; }
    List<Pk> air = new ArrayList<>();
    final List<int[]> trace = new ArrayList<>();
    final M[] m = new M[3];
    interface Tell { void on(Second r); }
    final List<Tell> told = new ArrayList<>();

    static final String[] TOOLS = {
        "12 7 0 0, 1 6 1 0, 6 5 1007 1006, 9 1005 17 0, 2 4 1006 6, 12 4 1004 0, 12 3 1004 0, 7 5 1003 0, 9 1005 12 0, 53 5 1 1003, 2 4 1004 1, 8 6 0 0, 2 6 1006 1, 6 5 1007 1006, 9 1005 17 0, 53 5 1 32, 8 4 0 0, 53 5 1 10, 22 0 0 0",
        "12 7 0 0, 9 1007 9 0, 52 0 0 1, 6 5 1001 1, 9 1005 7 0, 53 5 1 1000, 8 2 0 0, 22 0 0 0, 22 1 0 0, 1 6 1 0, 12 4 1006 0, 50 3 1004 1, 6 5 1003 0, 9 1005 8 0, 52 0 1003 1, 6 5 1001 1, 9 1005 19 0, 53 5 1 1000, 8 14 0 0, 51 5 1003 0, 2 6 1006 1, 6 5 1007 1006, 9 1005 7 0, 8 10 0 0",
        "12 7 0 0, 1 6 1 0, 6 5 1007 1006, 9 1005 9 0, 12 4 1006 0, 56 3 1004 0, 9 1003 10 0, 2 6 1006 1, 8 2 0 0, 22 0 0 0, 22 1 0 0",
        "12 7 0 0, 1 6 1 0, 6 5 1007 1006, 9 1005 9 0, 12 4 1006 0, 55 3 1004 0, 9 1003 10 0, 2 6 1006 1, 8 2 0 0, 22 0 0 0, 22 1 0 0",
        "12 4 1 0, 12 5 2 0, 57 3 1004 1005, 6 3 1003 0, 22 1003 0 0",
        "12 4 1 0, 12 5 2 0, 59 3 1004 1005, 6 3 1003 0, 22 1003 0 0",
        "12 4 1 0, 12 5 2 0, 61 3 1005 1004, 6 3 1003 0, 22 1003 0 0",
        "12 4 1 0, 1 6 0 0, 70 3 1004 1006, 6 5 1003 1, 9 1005 13 0, 5 2 1003 100, 4 2 1002 100, 3 3 1003 1002, 2 3 1003 96, 53 5 1 1003, 53 5 1 10, 2 6 1006 1, 8 2 0 0, 6 3 1003 0, 22 1003 0 0",
        "1 7 0 0, 52 0 0 1, 6 5 1001 1, 9 1005 6 0, 2 7 1007 1, 8 1 0 0, 1 6 0 0, 14 3 1007 1006, 7 5 1003 0, 9 1005 13 0, 53 5 1 1003, 2 6 1006 1, 8 7 0 0, 53 5 1 10, 22 0 0 0",
        "12 4 1 0, 33 1004 0 0, 22 0 0 0",
        "52 0 0 1, 6 5 1001 1, 9 1005 5 0, 71 5 1000 0, 8 0 0 0, 71 5 0 0, 22 0 0 0",
        "64 5 0 0, 22 0 0 0"};

    Second() {
        for (int i = 0; i < 28; i++) {
            prog.add(new ArrayList<>());
            if (i >= 16) {
                for (String r : TOOLS[i - 16].split(", ")) {
                    int[] w = new int[4];
                    String[] s = r.split(" ");
                    for (int n = 0; n < 4; n++) w[n] = Integer.parseInt(s[n]);
                    prog.get(i).add(w);
                }
            }
        }
        for (int u = 0; u < 5; u++) usr[u] = new int[] {0, 1, 40, 20};
        for (int i = 0; i < 3; i++) m[i] = new M(i);
    }

    void ev(int machine, char s, int n) { trace.add(new int[] {T, machine, s, n}); }

    void send(int from, int to, char kind, int[] data, int... v) {
        int at = T + 1;
        int n = 1;
        if (from != to) {
            Link l = links[from + to - 1];
            if (l.cut) { ev(from, 'l', to); return; }
            if (draw() < l.loss) { ev(from, 'l', to); return; }
            at = T + l.delay;
            if (draw() < l.twice) n = 2;
        }
        for (int i = 0; i < n; i++) {
            Pk p = new Pk();
            p.at = at + 2 * i; p.to = to; p.from = from; p.kind = kind; p.v = v.clone(); p.data = data == null ? null
                    : data.clone();
            air.add(p);
        }
    }

    int draw() { z = z * 1103515245 + 12345; return (z >>> 16) % 10; }

    void tick() {
        T++;
        for (M x : m) {
            List<Pk> now = new ArrayList<>();
            for (Pk p : air) if (p.to == x.no && p.at == T) now.add(p);
            air.removeAll(now);
            for (Pk p : now) {
                if (!x.up) ev(p.from, 'l', x.no); else x.arrive(p);
            }
            if (x.up) x.tick();
        }
    }

    static final class Wait extends RuntimeException {
        final char s; final int n;
        Wait(char s, int n) { super(null, null, false, false); this.s = s; this.n = n; }
    }
    static final class Err extends RuntimeException {
        final int e;
        Err(int e) { super(null, null, false, false); this.e = e; }
    }

    static final class Page { char s = 'n'; int at; }
    static final class Frame { char s = 'u'; int age, block = -1; boolean mark, clean; int[] c = new int[8]; }
    static final class Open { char kind; int inode, pipe, flags, pos; End end; int users; }
    static final class Call { Th from; Proc to; int val, ans; boolean taken, done; }
    static final class Begun { int op; Call call; End end; int trans; int number, due, sent, to; int[] v; boolean
            over; int ans, cell; }
    final class Th {
        int no; Proc p; int row; int[] r = new int[8]; int st; int val; char sign; int num; long since, readyNo; int
                readyT, waitOp;
        long wakeT; boolean handler; int kept; int[] told; Begun b;
    }
    final class Proc {
        int no; Proc parent; int user, prog, ver, dir; Open[] f = new Open[6]; Page[] g = new Page[8]; int[] arg =
                new int[64];
        int[] act = new int[12]; int mask, pend, own, prio = 4, limit = 8; boolean stopped, ended; int code, ticks;
                long alarm;
        boolean alarmOn; int next = -1, old = -1, changed = -1; List<Integer> job = new ArrayList<>(); Sh sh;
        Proc() { for (int i = 0; i < 8; i++) g[i] = new Page(); Arrays.fill(act, -1); }
    }
    final class End {
        int no, id, other, peer, port; char s; List<Integer> out = new ArrayList<>(); boolean closing; int sent, first;
        List<Integer> in = new ArrayList<>(); int exp; boolean otherClosed, refused; int due, tries; long waits;
    }
    static final class Req { int block; int[] data; Runnable done; boolean file; }
    static final class Copy { int m, path, user, end, inode; int[] cells; }
    static final class SReq { int from, number, user, path, index, value; boolean read; }

    static boolean isOp(int o) {
        return o >= 0 && o <= 14 || o >= 20 && o <= 35 || o >= 40 && o <= 46 || o >= 50 && o <= 71 || o >= 80 && o <=
                86;
    }
    static boolean hasRa(int o) {
        return isOp(o) && o != 0 && o != 8 && o != 9 && o != 11 && o != 22 && o != 26 && o != 30 && o != 33;
    }
    static boolean reg(int x) { return x >= 0 && x < 8; }

    final class M {
        final int no;
        boolean up = true, spoiled;
        Proc[] ps = new Proc[10];
        Th[] ts = new Th[14];
        int[] loads = new int[5];
        int ran = -1;
        Th cur;
        int inRow;
        long seq;
        Proc term;
        final Map<String, Long> acc = new HashMap<>();
        int busy;
        // memory
        Frame[] fr = new Frame[8];
        // locks
        Th[] lk = new Th[6];
        boolean[] bk = new boolean[6];
        List<List<Integer>> qs = new ArrayList<>();
        // files
        final int[][] disk = new int[82][8];
        int[][] mem = new int[70][8];
        int[][] should;
        boolean whole = true;
        List<Integer> held = new ArrayList<>();
        Open[] of = new Open[16];
        List<List<Integer>> pipes = new ArrayList<>();
        // disc
        int arm;
        List<Req> asked = new ArrayList<>();
        Req cur2;
        int left;
        // log
        int phase, given, safe, todo;
        TreeSet<Integer> trans = new TreeSet<>();
        // terminal
        List<Integer> line = new ArrayList<>(), keys = new ArrayList<>();
        final List<Integer> shown = new ArrayList<>(), printed = new ArrayList<>();
        List<List<Integer>> jobs = new ArrayList<>();
        // net
        End[] en = new End[6];
        int ids;
        Proc[] port = new Proc[10];
        final int[] names = new int[27];
        final int[][] knows = new int[27][];
        int numbers;
        Th far;
        int[][] lease = new int[20][3];
        boolean[][] leaseTold = new boolean[20][3];
        int lastLease, grace;
        List<Copy> copies = new ArrayList<>();
        List<SReq> row = new ArrayList<>();
        int[] ansNo = new int[3];
        Object[][] ans = new Object[3][];

        M(int no) {
            this.no = no;
            disk[0][2] = 1; disk[0][3] = 100;
            disk[10][0] = 2; disk[10][1] = 493; disk[10][3] = 1;
            should = copy(disk);
            wipe();
            mem = copy(disk);
        }

        int[][] copy(int[][] d) {
            int[][] c = new int[70][];
            for (int i = 0; i < 70; i++) c[i] = d[i].clone();
            return c;
        }

        void wipe() {
            ps = new Proc[10]; ts = new Th[14];
            Proc z0 = new Proc();
            z0.prog = -1; z0.parent = z0;
            ps[0] = z0;
            loads = new int[5]; ran = -1; cur = null; inRow = 0; term = null;
            for (int i = 0; i < 8; i++) fr[i] = new Frame();
            lk = new Th[6]; bk = new boolean[6];
            qs = new ArrayList<>();
            for (int i = 0; i < 4; i++) qs.add(new ArrayList<>());
            held = new ArrayList<>(); of = new Open[16];
            pipes = new ArrayList<>();
            for (int i = 0; i < 6; i++) pipes.add(new ArrayList<>());
            arm = 0; asked = new ArrayList<>(); cur2 = null; left = 0;
            phase = 0; trans = new TreeSet<>();
            line = new ArrayList<>(); keys = new ArrayList<>(); jobs = new ArrayList<>();
            en = new End[6]; port = new Proc[10];
            Arrays.fill(names, -1); Arrays.fill(knows, null);
            far = null; lease = new int[20][3]; leaseTold = new boolean[20][3]; grace = 0;
            copies = new ArrayList<>(); row = new ArrayList<>(); ansNo = new int[3]; ans = new Object[3][];
        }

        void add(int user, char what, int n) { acc.merge(user + "" + what, (long) n, Long::sum); }
        long get(int user, char what) { return acc.getOrDefault(user + "" + what, 0L); }

        // ---------------- tick
        void tick() {
            for (Th t : ts) {
                if (t != null && t.st == 1 && t.sign == 't' && t.wakeT == T) {
                    if (t.p.prog < 0) waits(t, 'h', 0); else ready(t);
                }
            }
            for (int p = 1; p < 10; p++) {
                Proc x = ps[p];
                if (x != null && !x.ended && x.alarmOn && x.alarm == T) {
                    x.alarmOn = false;
                    signal(x, 7, false);
                }
            }
            for (End e : en.clone()) if (e != null && en[e.no] == e && e.due == T) endDue(e);
            for (Th t : ts.clone()) {
                if (t != null && t.b != null && t.b.op >= 83 && t.b.op <= 86 && !t.b.over && t.b.due == T) {
                    if (t.b.sent == 4) reqOver(t, -110, 0);
                    else reqSend(t);
                }
            }
            if (grace == T) wake('v', -1);
            for (int i = 0; i < 20; i++) for (int k = 0; k < 3; k++) if (lease[i][k] == T) leaseGone(i, k);
            giveUpInode();
            serve();
            disc();
            if (T % 2 == 0 && !jobs.isEmpty()) {
                List<Integer> j = jobs.get(0);
                printed.add(j.remove(0));
                if (j.isEmpty()) jobs.remove(0);
            }
            if (T % 8 == 0) {
                for (Frame f : fr) {
                    if (f.s != 'u') { f.age = f.age / 2 + (f.mark ? 128 : 0); f.mark = false; }
                }
                for (int p = 1; p < 10; p++) if (ps[p] != null && !ps[p].ended) for (Page g : ps[p].g) if (g.s ==
                        'f') add(ps[p].user, 'f', 1);
            }
            if (T % 16 == 0) closeTrans();
            if (T % 32 == 0) for (int u = 0; u < 5; u++) loads[u] /= 2;
            Th t = choose();
            ran = t == null ? -1 : t.no;
            if (t != null) run(t);
        }

        boolean can(Th t) { return t.st == 0 && !t.p.stopped; }

        Th choose() {
            if (cur != null && can(cur)) { inRow++; return cur; }
            int bu = -1;
            for (int u = 0; u < 5; u++) {
                boolean any = false;
                for (Th t : ts) any |= t != null && can(t) && t.p.user == u;
                if (!any) continue;
                if (bu < 0 || (long) loads[u] * usr[bu][1] < (long) loads[bu] * usr[u][1]) bu = u;
            }
            if (bu < 0) { cur = null; return null; }
            Th b = null;
            for (Th t : ts) {
                if (t == null || !can(t) || t.p.user != bu) continue;
                if (b == null || rank(t) > rank(b) || rank(t) == rank(b) && t.readyNo < b.readyNo) b = t;
            }
            cur = b;
            inRow = 1;
            return b;
        }

        int rank(Th t) { return t.p.prio + (T - t.readyT) / 4; }

        void run(Th t) {
            Proc p = t.p;
            loads[p.user]++;
            add(p.user, 't', 1);
            busy++;
            p.ticks++;
            int n = inRow;
            if (p.prog == 28) {
                try { p.sh.step(t); } catch (Wait w) { waits(t, w.s, w.n); }
            } else {
                doRow(t);
            }
            if (!p.ended && ps[p.no] == p && p.next >= 0) change(p);
            if (ts[t.no] == t && t.st == 0 && n >= 3) ready(t);
        }

        void ready(Th t) {
            t.st = 0; t.readyT = T; t.readyNo = ++seq;
            if (cur == t) cur = null;
        }
        void waits(Th t, char s, int n) { t.st = 1; t.sign = s; t.num = n; t.since = ++seq; }
        void wake(char s, int n) {
            List<Th> l = new ArrayList<>();
            for (Th t : ts) if (t != null && t.st == 1 && t.sign == s && (t.num == n || s == 'x')) l.add(t);
            l.sort((a, b) -> Long.compare(a.since, b.since));
            for (Th t : l) ready(t);
        }

        // ---------------- processes
        int freeP() { for (int i = 1; i < 10; i++) if (ps[i] == null) return i; return -1; }
        int freeT() { for (int i = 0; i < 14; i++) if (ts[i] == null) return i; return -1; }
        int countFreeP() { int n = 0; for (int i = 1; i < 10; i++) if (ps[i] == null) n++; return n; }
        int countFreeT() { int n = 0; for (Th t : ts) if (t == null) n++; return n; }

        Proc make(Proc parent, int user, int prog) {
            Proc p = new Proc();
            p.no = freeP(); p.parent = parent; p.user = user; p.prog = prog;
            ps[p.no] = p;
            ev(no, 'p', p.no);
            makeTh(p, 0);
            return p;
        }
        Th makeTh(Proc p, int row) {
            Th t = new Th();
            t.no = freeT(); t.p = p; t.row = row;
            ts[t.no] = t;
            if (p.prog < 0) waits(t, 'h', 0); else ready(t);
            return t;
        }
        List<Th> live(Proc p) {
            List<Th> l = new ArrayList<>();
            for (Th t : ts) if (t != null && t.p == p && t.st != 2) l.add(t);
            return l;
        }

        void giveUp(Th t) {
            Begun b = t.b;
            t.b = null;
            if (b == null) return;
            if (b.op == 81) { if (en[b.end.no] == b.end) en[b.end.no] = null; }
            if ((b.op == 85 || b.op == 86) && !b.over) { far = null; wake('x', 0); }
        }

        void gone(Th t) {
            ts[t.no] = null;
            t.st = 3;
            if (cur == t) cur = null;
            giveUp(t);
        }

        void endP(Proc p, int code) {
            ev(no, 'e', 1000 * p.no + code);
            p.ended = true; p.code = code;
            List<Th> mine = new ArrayList<>();
            for (Th t : ts.clone()) if (t != null && t.p == p) { mine.add(t); gone(t); }
            for (int i = 0; i < 6; i++) if (p.f[i] != null) { Open o = p.f[i]; p.f[i] = null; close(o); }
            dropPages(p);
            for (int l = 0; l < 6; l++) if (lk[l] != null && mine.contains(lk[l])) breakLock(l);
            for (Th t : ts) {
                if (t != null && t.b != null && t.b.op == 44 && t.b.call.to == p && !t.b.call.done) { t.b.call.done =
                        true; t.b.call.ans = -3; }
            }
            wake('m', p.no);
            for (int i = 0; i < 10; i++) {
                if (port[i] != p) continue;
                port[i] = null;
                List<End> l = waiting(i);
                for (End e : l) { send(no, e.other, 'X', null, e.peer, e.id); en[e.no] = null; }
            }
            endJob(p);
            for (int i = 1; i < 10; i++) {
                if (ps[i] != null && ps[i].parent == p) { ps[i].parent = ps[0]; if (ps[i].ended) ps[i] = null; }
            }
            if (term == p) term = null;
            if (p.parent == ps[0]) ps[p.no] = null;
            else { Proc q = p.parent; signal(q, 5, false); wake('c', q.no); }
        }

        void breakLock(int l) { lk[l] = null; bk[l] = true; wake('l', l); }

        void endTh(Th t, int v) {
            if (live(t.p).size() == 1) { endP(t.p, Math.floorMod(v, 256)); return; }
            giveUp(t);
            t.st = 2; t.val = v;
            wake('j', t.no);
            for (int l = 0; l < 6; l++) if (lk[l] == t) breakLock(l);
        }

        // ---------------- signals
        void signal(Proc p, int s, boolean own) {
            if (p.ended || ps[p.no] != p || p.no == 0) return;
            boolean told = false;
            if (s == 10 && p.stopped) {
                ev(no, 's', 100 * p.no + s);
                told = true;
                p.stopped = false;
                for (Th t : ts) if (t != null && t.p == p && t.st == 0) ready(t);
            }
            boolean none;
            if (p.prog == 28) none = s == 2 || s == 5 || s == 7 || s == 9 || s == 10;
            else if (s == 9) none = p.stopped;
            else none = p.act[s] == -2 || p.act[s] == -1 && (s == 5 || s == 10);
            if (none) return;
            boolean masked = (p.mask >> s & 1) == 1;
            if (s != 3 && s != 9 && (masked || p.act[s] >= 0)) {
                if ((p.pend >> s & 1) == 1) return;
                if (!told) ev(no, 's', 100 * p.no + s);
                p.pend |= 1 << s;
                if (own) p.own |= 1 << s;
                if (!masked && p.act[s] >= 0) interrupt(p);
                return;
            }
            if (!told) ev(no, 's', 100 * p.no + s);
            if (s == 9) { p.stopped = true; wake('c', p.parent.no); return; }
            if (own && (s == 4 || s == 8) && p.changed >= 0 && T <= p.changed + 20) {
                p.prog = p.old; p.changed = -1; ev(no, 't', p.no);
                anew(p, -1);
                return;
            }
            endP(p, 128 + s);
        }

        void settle(Proc p) {
            while (true) {
                int s = 0;
                for (int i = 11; i > 0; i--) if ((p.pend >> i & 1) == 1 && (p.mask >> i & 1) == 0 && p.act[i] < 0) s
                        = i;
                if (s == 0) return;
                boolean own = (p.own >> s & 1) == 1;
                p.pend &= ~(1 << s); p.own &= ~(1 << s);
                signal(p, s, own);
            }
        }

        void interrupt(Proc p) {
            Th x = null;
            for (int i = 13; i >= 0; i--) {
                Th t = ts[i];
                if (t == null || t.p != p) continue;
                if (t.st == 0) return;
                if (t.st == 1 && "bgsdr".indexOf(t.sign) < 0) x = t;
            }
            if (x == null) return;
            if (x.sign != 't') {
                List<int[]> rows = prog.get(p.prog);
                if (x.row >= 0 && x.row < rows.size()) {
                    int[] w = rows.get(x.row);
                    int r = w[0] == 52 ? w[3] : w[1];
                    if (hasRa(w[0]) && reg(r)) x.r[r] = -4;
                }
                x.row++;
            }
            x.st = 9;
            giveUp(x);
            ready(x);
        }

        boolean change(Proc p) {
            for (Th t : live(p)) {
                if (t.st == 0) return false;
                boolean ok = t.sign == 'a' || t.sign == 'q' && t.waitOp == 43 || t.sign == 'n' && t.num < 0;
                if (!ok) return false;
            }
            p.old = p.prog; p.changed = T; p.prog = p.next; p.next = -1;
            ev(no, 'u', p.no);
            anew(p, p.ver);
            settle(p);
            return true;
        }

        void anew(Proc p, int told) {
            p.ver++;
            Arrays.fill(p.act, -1);
            for (Th t : live(p)) { t.st = 9; giveUp(t); t.row = 0; t.r[7] = told; t.handler = false; ready(t); }
        }

        // ---------------- rows
        void doRow(Th t) {
            Proc p = t.p;
            int[] w;
            if (p.prog < 0) w = t.told;
            else {
                if (!t.handler) {
                    for (int s = 1; s < 12; s++) {
                        if ((p.pend >> s & 1) == 1 && (p.mask >> s & 1) == 0 && p.act[s] >= 0) {
                            p.pend &= ~(1 << s); p.own &= ~(1 << s);
                            giveUp(t);
                            t.kept = t.row; t.handler = true; t.row = p.act[s];
                            break;
                        }
                    }
                }
                List<int[]> rows = prog.get(p.prog);
                if (t.row == rows.size()) { giveUp(t); endTh(t, 0); return; }
                if (t.row < 0 || t.row > rows.size()) { giveUp(t); signal(p, 4, true); settle(p); return; }
                w = rows.get(t.row);
            }
            if (t.b != null && t.b.op != w[0]) giveUp(t);
            t.waitOp = w[0];
            boolean ill = !isOp(w[0]) || hasRa(w[0]) && !reg(w[1]) || (w[0] == 45 || w[0] == 52) && !reg(w[3]);
            if (p.prog < 0 && (w[0] == 8 || w[0] == 9 || w[0] == 24 || w[0] == 28 || w[0] == 30)) ill = true;
            if (ill) { signal(p, 4, true); settle(p); return; }
            try {
                exec(t, p, w[0], w[1], w[3], V(t, w[1]), V(t, w[2]), V(t, w[3]));
            } catch (Wait x) {
                waits(t, x.s, x.n);
            } catch (Err x) {
                t.r[w[1]] = x.e;
                next(t);
            }
        }

        int V(Th t, int x) { return x >= 1000 && x <= 1007 ? t.r[x - 1000] : x; }
        void next(Th t) { if (t.p.prog < 0) waits(t, 'h', 0); else t.row++; }
        void done(Th t, int a, int v) { t.r[a] = v; next(t); }
        void fault(Th t, Proc p) { next(t); signal(p, 8, true); settle(p); }

        void exec(Th t, Proc p, int op, int a, int c, int va, int vb, int vc) {
            int[] r = t.r;
            switch (op) {
                case 0: next(t); return;
                case 1: done(t, a, vb); return;
                case 2: done(t, a, vb + vc); return;
                case 3: done(t, a, vb - vc); return;
                case 4: done(t, a, vb * vc); return;
                case 5: if (vc == 0) fault(t, p); else done(t, a, (int) ((long) vb / vc)); return;
                case 6: done(t, a, vb < vc ? 1 : 0); return;
                case 7: done(t, a, vb == vc ? 1 : 0); return;
                case 8: t.row = va; return;
                case 9: if (va != 0) t.row = vb; else next(t); return;
                case 10: case 11: mem(t, p, op, a, va, vb); return;
                case 12: done(t, a, vb >= 0 && vb <= 63 ? p.arg[vb] : 0); return;
                case 13: done(t, a, T); return;
                case 14: { String s = Integer.toString(vb); done(t, a, vc >= 0 && vc < s.length() ? s.charAt(vc) :
                        0); return; }
                case 20: fork(t, p, a); return;
                case 21: exec21(t, p, a, vb); return;
                case 22: endP(p, Math.floorMod(va, 256)); return;
                case 23: {
                    boolean any = false;
                    for (int i = 1; i < 10; i++) {
                        if (ps[i] != null && ps[i].parent == p) {
                            any = true;
                            if (ps[i].ended) { int v = 1000 * i + ps[i].code; ps[i] = null; done(t, a, v); return; }
                        }
                    }
                    if (any) throw new Wait('c', p.no);
                    done(t, a, -10);
                    return;
                }
                case 24: {
                    if (vb < 0 || vb > prog.get(p.prog).size()) throw new Err(-22);
                    if (freeT() < 0) throw new Err(-23);
                    Th n = makeTh(p, vb);
                    n.r = r.clone();
                    done(t, a, n.no);
                    return;
                }
                case 25: {
                    Th o = vb >= 0 && vb < 14 ? ts[vb] : null;
                    if (o == null || o == t || o.p != p) throw new Err(-3);
                    if (o.st != 2) throw new Wait('j', vb);
                    ts[vb] = null;
                    done(t, a, o.val);
                    return;
                }
                case 26: endTh(t, va); return;
                case 27: {
                    if (vc < 1 || vc > 11) throw new Err(-22);
                    Proc q = vb >= 1 && vb < 10 ? ps[vb] : null;
                    if (q == null || q.ended) throw new Err(-3);
                    if (p.user != 0 && q.user != p.user) throw new Err(-1);
                    done(t, a, 0);
                    signal(q, vc, q == p);
                    settle(q);
                    return;
                }
                case 28: {
                    if (vb < 1 || vb > 11 || vb == 3 || vb == 9 || vc < -2 || vc > prog.get(p.prog).size()) throw new
                            Err(-22);
                    int o = p.act[vb];
                    p.act[vb] = vc;
                    done(t, a, o);
                    settle(p);
                    return;
                }
                case 29: {
                    int o = p.mask;
                    int n = 0;
                    for (int s = 1; s <= 11; s++) if (s != 3 && s != 9 && (vb >> s & 1) == 1) n |= 1 << s;
                    p.mask = n;
                    done(t, a, o);
                    settle(p);
                    return;
                }
                case 30:
                    if (!t.handler) { signal(p, 4, true); settle(p); return; }
                    t.handler = false;
                    t.row = t.kept;
                    return;
                case 31: {
                    if (vb < 0) throw new Err(-22);
                    int o = p.alarmOn ? (int) (p.alarm - T) : 0;
                    p.alarmOn = vb > 0;
                    p.alarm = (long) T + vb;
                    done(t, a, o);
                    return;
                }
                case 32: {
                    if (vb < 0 || vb > 7) throw new Err(-22);
                    if (vb > p.prio && p.user != 0) throw new Err(-1);
                    int o = p.prio;
                    p.prio = vb;
                    done(t, a, o);
                    return;
                }
                case 33:
                    t.wakeT = (long) T + Math.max(1, va);
                    if (p.prog >= 0) t.row++;
                    throw new Wait('t', 0);
                case 34:
                    done(t, a, vb == 0 ? p.no : vb == 1 ? t.no : vb == 2 ? p.parent.no : vb == 3 ? p.user : vb == 4 ?
                            p.ver : -22);
                    return;
                case 35: {
                    if (vb < 0 || vb > 8) throw new Err(-22);
                    int o = p.limit;
                    p.limit = vb;
                    done(t, a, o);
                    return;
                }
                case 40: {
                    if (vb < 0 || vb > 5) throw new Err(-22);
                    if (lk[vb] == t) throw new Err(-35);
                    if (lk[vb] != null) throw new Wait('l', vb);
                    lk[vb] = t;
                    int o = bk[vb] ? 1 : 0;
                    bk[vb] = false;
                    done(t, a, o);
                    return;
                }
                case 41:
                    if (vb < 0 || vb > 5) throw new Err(-22);
                    if (lk[vb] != t) throw new Err(-1);
                    lk[vb] = null;
                    done(t, a, 0);
                    wake('l', vb);
                    return;
                case 42:
                    if (vb < 0 || vb > 3) throw new Err(-22);
                    if (qs.get(vb).size() == 3) throw new Wait('q', vb);
                    qs.get(vb).add(vc);
                    done(t, a, 0);
                    wake('q', vb);
                    return;
                case 43: {
                    if (vb < 0 || vb > 3) throw new Err(-22);
                    if (qs.get(vb).isEmpty()) throw new Wait('q', vb);
                    int v = qs.get(vb).remove(0);
                    done(t, a, v);
                    wake('q', vb);
                    return;
                }
                case 44: {
                    if (t.b != null) {
                        if (!t.b.call.done) throw new Wait('m', t.b.call.to.no);
                        int v = t.b.call.ans;
                        t.b = null;
                        done(t, a, v);
                        return;
                    }
                    Proc q = vb >= 1 && vb < 10 ? ps[vb] : null;
                    if (q == null || q == p || q.ended) throw new Err(-3);
                    Call k = new Call();
                    k.from = t; k.to = q; k.val = vc;
                    t.b = new Begun();
                    t.b.op = 44; t.b.call = k;
                    calls.add(k);
                    wake('a', q.no);
                    throw new Wait('m', q.no);
                }
                case 45: {
                    for (Call k : new ArrayList<>(calls)) {
                        if (k.from.b == null || k.from.b.call != k || k.done || k.taken) { calls.remove(k); continue; }
                        if (k.to != p) continue;
                        k.taken = true;
                        calls.remove(k);
                        r[a] = k.val;
                        r[c] = 100 * k.from.p.no + k.from.no;
                        next(t);
                        return;
                    }
                    throw new Wait('a', p.no);
                }
                case 46: {
                    int n = vb % 100;
                    Th o = vb >= 0 && n < 14 ? ts[n] : null;
                    if (o == null || o.p.no != vb / 100 || o.b == null || o.b.op != 44 || o.b.call.to != p ||
                            !o.b.call.taken || o.b.call.done) throw new Err(-3);
                    o.b.call.done = true;
                    o.b.call.ans = vc;
                    done(t, a, 0);
                    wake('m', p.no);
                    return;
                }
                default:
                    if (op >= 80) netRow(t, p, op, a, vb, vc); else fileRow(t, p, op, a, c, vb, vc);
            }
        }
        final List<Call> calls = new ArrayList<>();

        void fork(Th t, Proc p, int a) {
            if (freeP() < 0 || freeT() < 0) throw new Err(-23);
            Proc q = make(p, p.user, p.prog);
            q.ver = p.ver; q.dir = p.dir; q.arg = p.arg.clone(); q.act = p.act.clone(); q.mask = p.mask; q.prio =
                    p.prio; q.limit = p.limit;
            for (int i = 0; i < 6; i++) { q.f[i] = p.f[i]; if (q.f[i] != null) q.f[i].users++; }
            for (int i = 0; i < 8; i++) { q.g[i].s = p.g[i].s; q.g[i].at = p.g[i].at; }
            Th n = live(q).get(0);
            n.r = t.r.clone();
            n.r[a] = 0;
            if (p.prog >= 0) n.row = t.row + 1;
            done(t, a, q.no);
        }

        void exec21(Th t, Proc p, int a, int vb) {
            if (vb < 0 || vb > 27) throw new Err(-22);
            for (Th o : ts.clone()) {
                if (o != null && o.p == p && o != t) {
                    gone(o);
                    for (int l = 0; l < 6; l++) if (lk[l] == o) breakLock(l);
                }
            }
            dropPages(p);
            p.prog = vb; p.ver = 0; p.next = -1; p.changed = -1;
            Arrays.fill(p.act, -1);
            Arrays.fill(t.r, 0);
            t.row = 0; t.handler = false;
            settle(p);
        }

        // ---------------- memory
        void mem(Th t, Proc p, int op, int a, int va, int ad) {
            if (ad < 0 || ad > 63) { fault(t, p); return; }
            Page g = p.g[ad / 8];
            if (g.s == 'm') {
                int i = g.at / 100;
                int x = g.at % 100 * 8 + ad % 8;
                if (op == 10) { done(t, a, readCell(i, x, p.user)); return; }
                int e;
                try { write(i, x, va, p.user, no); e = 1; } catch (Err er) { e = er.e; }
                if (e < 0) { fault(t, p); return; }
                add(p.user, 'w', 1);
                next(t);
                return;
            }
            if (g.s == 'n') {
                int n = 0;
                for (Page q : p.g) if (q.s != 'n' && q.s != 'm') n++;
                if (n >= p.limit) { fault(t, p); return; }
                int f = need(-1);
                if (f < 0) { endP(p, 137); return; }
                takeFrame(f);
                Arrays.fill(fr[f].c, 0);
                g.s = 'f'; g.at = f;
            } else if (g.s == 's') {
                int f = need(-1);
                if (f < 0) { endP(p, 137); return; }
                takeFrame(f);
                int b = g.at;
                fr[f].s = 'c'; fr[f].block = b;
                allPages('s', b, 'c', f);
                ev(no, 'f', f);
                add(p.user, 'r', 1);
                ask(b, null, false, () -> {
                    fr[f].c = disk[b].clone(); fr[f].s = 'f'; fr[f].age = 128; fr[f].clean = true; fr[f].block = b;
                    allPages('c', f, 'f', f);
                    wake('d', f);
                    freeLeft(f);
                });
                throw new Wait('d', f);
            } else if (g.s == 'c' || g.s == 'o') {
                throw new Wait('d', g.at);
            } else if (op == 11 && pagesIn(g.at) > 1) {
                int from = g.at;
                int f = need(from);
                if (f < 0) { endP(p, 137); return; }
                takeFrame(f);
                fr[f].c = fr[from].c.clone();
                g.at = f;
            }
            Frame f = fr[g.at];
            f.mark = true;
            if (op == 11) { f.clean = false; f.block = -1; f.c[ad % 8] = va; next(t); }
            else done(t, a, f.c[ad % 8]);
        }
        void takeFrame(int f) { fr[f].s = 'f'; fr[f].age = 128; fr[f].block = -1; fr[f].mark = false; fr[f].clean =
                false; }
        void freeFrame(int f) { fr[f] = new Frame(); }
        void allPages(char s, int at, char s2, int at2) {
            for (Proc p : ps) if (p != null) for (Page g : p.g) if (g.s == s && g.at == at) { g.s = s2; g.at = at2; }
        }
        int pagesIn(int f) {
            int n = 0;
            for (Proc p : ps) if (p != null) for (Page g : p.g) if ("fco".indexOf(g.s) >= 0 && g.at == f) n++;
            return n;
        }
        void freeLeft(int f) { if (fr[f].s == 'f' && pagesIn(f) == 0) { freeFrame(f); wake('r', 0); } }
        int need(int not) {
            for (int f = 0; f < 8; f++) if (fr[f].s == 'u') return f;
            int v = -1;
            for (int f = 0; f < 8; f++) if (fr[f].s == 'f' && f != not && (v < 0 || fr[f].age < fr[v].age)) v = f;
            if (v < 0) throw new Wait('r', 0);
            if (fr[v].clean) { ev(no, 'o', v); allPages('f', v, 's', fr[v].block); return v; }
            int b = 70;
            for (; b < 82; b++) {
                boolean used = false;
                for (Frame x : fr) used |= x.s != 'u' && x.block == b;
                for (Proc p : ps) if (p != null) for (Page g : p.g) used |= g.s == 's' && g.at == b;
                if (!used) break;
            }
            if (b == 82) return -1;
            int bb = b;
            int vv = v;
            fr[v].block = b; fr[v].s = 'o';
            allPages('f', v, 'o', v);
            ev(no, 'o', v);
            ask(b, fr[v].c, false, () -> {
                allPages('o', vv, 's', bb);
                freeFrame(vv);
                wake('d', vv);
                wake('r', 0);
            });
            throw new Wait('r', 0);
        }
        void dropPages(Proc p) {
            for (Page g : p.g) {
                char s = g.s;
                g.s = 'n';
                if ("fco".indexOf(s) >= 0) freeLeft(g.at);
            }
        }

        // ---------------- disc
        void ask(int b, int[] data, boolean file, Runnable done) {
            Req q = new Req();
            q.block = b; q.data = data == null ? null : data.clone(); q.done = done; q.file = file;
            asked.add(q);
        }
        void disc() {
            if (cur2 != null) {
                left--;
                if (left == 0) {
                    Req q = cur2;
                    cur2 = null;
                    if (q.data != null) System.arraycopy(q.data, 0, disk[q.block], 0, 8);
                    q.done.run();
                }
                return;
            }
            Req b = null;
            for (Req q : asked) if (q.block >= arm && (b == null || q.block < b.block)) b = q;
            if (b == null) for (Req q : asked) if (b == null || q.block < b.block) b = q;
            if (b == null) return;
            asked.remove(b);
            cur2 = b;
            left = 2 + Math.abs(arm - b.block) / 10;
            arm = b.block;
        }

        // ---------------- log
        void closeTrans() {
            if (phase != 0 || trans.isEmpty()) return;
            phase = 1;
            ev(no, 'c', given);
            todo = trans.size();
            int at = 2;
            for (int b : trans) {
                ask(at++, mem[b], false, () -> { if (--todo == 0) record(); });
            }
        }
        void record() {
            phase = 2;
            int[] r = new int[8];
            r[0] = given; r[1] = trans.size();
            List<Integer> l = new ArrayList<>(trans);
            for (int i = 0; i < l.size(); i += 2) r[2 + i / 2] = 100 * l.get(i) + (i + 1 < l.size() ? l.get(i + 1) :
                    99);
            ask(1, r, false, () -> {
                phase = 3;
                safe = given;
                ev(no, 'd', given);
                wake('s', given);
                todo = trans.size();
                for (int b : trans) {
                    should[b] = mem[b].clone();
                    ask(b, mem[b], false, () -> {
                        if (--todo == 0) {
                            ev(no, 'i', given);
                            trans.clear();
                            phase = 4;
                            dropHeld();
                            ask(1, new int[] {given, 0, 0, 0, 0, 0, 0, 0}, false, () -> { phase = 0; wake('g', 0); });
                        }
                    });
                }
            });
        }

        // ---------------- files
        final class Cmd {
            final TreeMap<Integer, Integer> o = new TreeMap<>();
            int fresh;
            int g(int b, int c) {
                Integer v = o.get(b * 8 + c);
                return v != null ? v : (up ? mem : disk)[b][c];
            }
            void s(int b, int c, int v) { o.put(b * 8 + c, v); }
            int kind(int i) { int k = g(10 + i, 0); return i == 0 ? 2 : k >= 1 && k <= 3 ? k : 0; }
            int size(int i) { return Math.max(0, Math.min(80, g(10 + i, 4))); }
            int owner(int i) { int v = g(10 + i, 2); return v < 0 || v > 49 ? -1 : v / 10; }
            int num(int v) { return v >= 30 && v <= 69 ? v : 0; }
            int blk(int i, int n) {
                if (n < 2) return num(g(10 + i, 5 + n));
                int b = num(g(10 + i, 7));
                return b == 0 ? 0 : num(g(b, n - 2));
            }
            int cell(int i, int x) {
                if (x < 0 || x > 79) return 0;
                int b = blk(i, x / 8);
                return b == 0 ? 0 : g(b, x % 8);
            }
            boolean good(int v) {
                return v > 0 && v % 100 >= 1 && v % 100 <= 26 && v / 100 >= 1 && v / 100 <= 19 && kind(v / 100) != 0;
            }
            int entry(int d, int name) {
                for (int x = 0; x < size(d); x++) { int v = cell(d, x); if (good(v) && v % 100 == name) return x; }
                return -1;
            }
            boolean empty(int d) { for (int x = 0; x < size(d); x++) if (good(cell(d, x))) return false; return true; }
            boolean may(int u, int i, int bits) {
                if (u == 0) return true;
                int mode = g(10 + i, 1) & 511;
                int v = g(10 + i, 2);
                int sh = 0;
                if (v >= 0 && v <= 49) {
                    if (v / 10 == u) sh = 6;
                    else if (v % 10 == u % 3 || (usr[u][0] >> v % 10 & 1) == 1) sh = 3;
                }
                return (mode >> sh & bits) == bits;
            }
            int last;
            int walk(int path, int dir, int u, boolean follow, boolean place) {
                LinkedList<Integer> n = digits(path);
                if (n == null || place && n.isEmpty()) return -22;
                int l = 0;
                if (place) l = n.removeLast();
                int at = path < 0 ? dir : 0;
                int links = 0;
                while (!n.isEmpty()) {
                    if (kind(at) != 2) return -20;
                    if (!may(u, at, 1)) return -1;
                    int x = entry(at, n.removeFirst());
                    if (x < 0) return -2;
                    int i = cell(at, x) / 100;
                    if (kind(i) == 3 && (follow || place || !n.isEmpty())) {
                        if (++links == 5) return -40;
                        int to = g(10 + i, 4);
                        LinkedList<Integer> d = digits(to);
                        if (d == null) return -22;
                        n.addAll(0, d);
                        if (to >= 0) at = 0;
                    } else at = i;
                }
                if (place) {
                    if (kind(at) != 2) return -20;
                    if (g(10 + at, 3) == 0) return -2;
                    last = l;
                }
                return at;
            }
            int ok(int code) { if (code < 0) throw new Err(code); return code; }
            boolean bit(int b) { return (g(0, b < 60 ? 0 : 1) >> (b < 60 ? b - 30 : b - 60) & 1) == 1; }
            void bit(int b, boolean v) {
                int w = b < 60 ? 0 : 1;
                int k = 1 << (b < 60 ? b - 30 : b - 60);
                s(0, w, v ? g(0, w) | k : g(0, w) & ~k);
            }
            int take(int i) {
                int o = owner(i);
                if (o > 0 && g(0, 3 + o) % 100 >= usr[o][2]) throw new Err(-69);
                for (int b = 30; b < 70; b++) {
                    if (bit(b)) continue;
                    bit(b, true);
                    if (o >= 0) s(0, 3 + o, g(0, 3 + o) + 1);
                    for (int c = 0; c < 8; c++) s(b, c, 0);
                    return b;
                }
                throw new Err(-28);
            }
            int needBlk(int i, int n) {
                int b = blk(i, n);
                if (b > 0) return b;
                if (n < 2) { b = take(i); s(10 + i, 5 + n, b); }
                else {
                    int nb = num(g(10 + i, 7));
                    if (nb == 0) { nb = take(i); s(10 + i, 7, nb); }
                    b = take(i);
                    s(nb, n - 2, b);
                }
                if (kind(i) == 1) fresh = b;
                return b;
            }
            void free(int i, int b) {
                bit(b, false);
                int o = owner(i);
                if (o >= 0) s(0, 3 + o, g(0, 3 + o) - 1);
            }
            void freeFrom(int i, int n) {
                for (; n < 10; n++) {
                    int b = blk(i, n);
                    if (b == 0) continue;
                    if (n < 2) s(10 + i, 5 + n, 0); else s(num(g(10 + i, 7)), n - 2, 0);
                    free(i, b);
                }
                int nb = num(g(10 + i, 7));
                if (nb > 0) {
                    boolean any = false;
                    for (int k = 2; k < 10; k++) any |= blk(i, k) > 0;
                    if (!any) { s(10 + i, 7, 0); free(i, nb); }
                }
            }
            int newInode(int path, Proc p, int kind, int mode, int size) {
                int d = ok(walk(path, p.dir, p.user, true, true));
                if (entry(d, last) >= 0) throw new Err(-17);
                if (!may(p.user, d, 3)) throw new Err(-1);
                int u = p.user;
                if (u > 0 && g(0, 3 + u) / 100 >= usr[u][3]) throw new Err(-69);
                for (int i = 1; i < 20; i++) {
                    if ((g(0, 2) >> i & 1) == 1) continue;
                    s(0, 2, g(0, 2) | 1 << i);
                    s(0, 3 + u, g(0, 3 + u) + 100);
                    int[] v = {kind, mode, 10 * u + u % 3, 1, size, 0, 0, 0};
                    for (int c = 0; c < 8; c++) s(10 + i, c, v[c]);
                    put(d, last, i);
                    return i;
                }
                throw new Err(-28);
            }
            void put(int d, int name, int i) {
                int n = size(d);
                int x = 0;
                while (x < n && cell(d, x) != 0) x++;
                if (x == 80) throw new Err(-27);
                int f = fresh;
                int b = needBlk(d, x / 8);
                fresh = f;
                s(b, x % 8, 100 * i + name);
                if (x == n) s(10 + d, 4, n + 1);
            }
            void commit() {
                TreeSet<Integer> ch = new TreeSet<>();
                for (Map.Entry<Integer, Integer> e : o.entrySet()) if (mem[e.getKey() / 8][e.getKey() % 8] !=
                        e.getValue()) ch.add(e.getKey() / 8);
                if (!ch.isEmpty()) {
                    if (phase != 0) throw new Wait('g', 0);
                    TreeSet<Integer> all = new TreeSet<>(trans);
                    all.addAll(ch);
                    if (all.size() > 8) { closeTrans(); throw new Wait('g', 0); }
                    if (trans.isEmpty()) given++;
                    trans = all;
                    for (Map.Entry<Integer, Integer> e : o.entrySet()) mem[e.getKey() / 8][e.getKey() % 8] =
                            e.getValue();
                    held.removeIf(b -> !new Cmd().bit(b));
                }
                if (fresh > 0) { hold(fresh); }
            }
        }

        LinkedList<Integer> digits(int path) {
            if (path == Integer.MIN_VALUE) return null;
            LinkedList<Integer> l = new LinkedList<>();
            for (int r = Math.abs(path); r > 0; r /= 27) { if (r % 27 == 0) return null; l.addFirst(r % 27); }
            return l;
        }
        void use(int b) { if (b > 0 && held.remove((Integer) b)) held.add(b); }
        void hold(int b) { held.remove((Integer) b); held.add(b); dropHeld(); }
        void dropHeld() {
            while (held.size() > 8) {
                int k = -1;
                for (int i = 0; i < held.size() && k < 0; i++) if (!trans.contains(held.get(i))) k = i;
                if (k < 0) return;
                held.remove(k);
            }
        }
        boolean ofFile(int b) {
            Cmd k = new Cmd();
            for (int i = 0; i < 20; i++) if (k.kind(i) == 1) for (int n = 0; n < 10; n++) if (k.blk(i, n) == b)
                    return true;
            return false;
        }
        void fetch(int b, int user) {
            boolean is = cur2 != null && cur2.file && cur2.block == b;
            for (Req q : asked) is |= q.file && q.block == b;
            if (!is) {
                if (user >= 0) add(user, 'r', 1);
                ask(b, null, true, () -> {
                    if (ofFile(b)) hold(b);
                    wake('b', b);
                });
            }
            throw new Wait('b', b);
        }
        int readCell(int i, int x, int user) {
            Cmd k = new Cmd();
            if (x < 0 || x >= k.size(i)) return 0;
            int b = k.blk(i, x / 8);
            if (b == 0) return 0;
            if (!held.contains(b)) fetch(b, user);
            use(b);
            return mem[b][x % 8];
        }
        void leaseCheck(int i, int writer) {
            if (T < grace) throw new Wait('v', -1);
            boolean any = false;
            for (int k = 0; k < 3; k++) {
                if (k == writer || lease[i][k] == 0) continue;
                any = true;
                if (!leaseTold[i][k]) {
                    leaseTold[i][k] = true;
                    ev(no, 'k', i);
                    send(no, k, 'T', null, i);
                }
            }
            if (any) throw new Wait('v', i);
        }
        void leaseGone(int i, int k) {
            if (lease[i][k] == 0) return;
            lease[i][k] = 0;
            leaseTold[i][k] = false;
            wake('v', i);
        }
        void write(int i, int x, int v, int user, int writer) {
            if (x > 79) throw new Err(-27);
            leaseCheck(i, writer);
            Cmd k = new Cmd();
            int b = k.blk(i, x / 8);
            if (b > 0 && !held.contains(b)) fetch(b, user);
            if (b == 0) b = k.needBlk(i, x / 8);
            k.s(b, x % 8, v);
            if (k.size(i) <= x) k.s(10 + i, 4, x + 1);
            k.commit();
            use(b);
        }

        int freeF(Proc p) { for (int i = 0; i < 6; i++) if (p.f[i] == null) return i; return -1; }
        int freeO() { int n = 0; for (Open o : of) if (o == null) n++; return n; }
        Open add(char kind) {
            Open o = new Open();
            o.kind = kind; o.users = 1;
            for (int i = 0; i < 16; i++) if (of[i] == null) { of[i] = o; return o; }
            return null;
        }
        boolean pipeHas(int n, char kind) { for (Open o : of) if (o != null && o.kind == kind && o.pipe == n) return
                true; return false; }
        int freePipes() { int c = 0; for (int n = 0; n < 6; n++) if (!pipeHas(n, 'r') && !pipeHas(n, 'w')) c++;
                return c; }
        int freePipe() { for (int n = 0; n < 6; n++) if (!pipeHas(n, 'r') && !pipeHas(n, 'w')) return n; return -1; }
        void close(Open o) {
            if (--o.users > 0) return;
            for (int i = 0; i < 16; i++) if (of[i] == o) of[i] = null;
            if (o.kind == 'r' || o.kind == 'w') {
                if (!pipeHas(o.pipe, 'r') && !pipeHas(o.pipe, 'w')) pipes.get(o.pipe).clear();
                wake('p', o.pipe);
            }
            if (o.kind == 'n') shut(o.end);
        }
        Open open(int path, Proc p, int flags) {
            if (freeO() == 0) throw new Err(-23);
            Cmd k = new Cmd();
            int i = k.walk(path, p.dir, p.user, true, false);
            if (i >= 0) {
                if ((flags & 4) != 0 && (flags & 32) != 0) throw new Err(-17);
                if (k.kind(i) == 2) throw new Err(-21);
                if ((flags & 1) != 0 && !k.may(p.user, i, 4)) throw new Err(-1);
                if ((flags & 2) != 0 && !k.may(p.user, i, 2)) throw new Err(-1);
                if ((flags & 8) != 0 && (flags & 2) != 0) {
                    leaseCheck(i, no);
                    k.freeFrom(i, 0);
                    k.s(10 + i, 4, 0);
                    k.commit();
                }
            } else if (i == -2 && (flags & 4) != 0) {
                int d = k.walk(path, p.dir, p.user, true, true);
                if (d < 0) throw new Err(d);
                if (k.entry(d, k.last) >= 0) throw new Err(-2);
                i = k.newInode(path, p, 1, 420, 0);
                k.commit();
            } else throw new Err(i);
            Open o = add('f');
            o.inode = i; o.flags = flags;
            return o;
        }

        void fileRow(Th t, Proc p, int op, int a, int c, int vb, int vc) {
            Cmd k = new Cmd();
            Open o = vb >= 0 && vb < 6 ? p.f[vb] : null;
            switch (op) {
                case 50: {
                    if (vc < 1 || vc > 63 || (vc & 3) == 0) throw new Err(-22);
                    int f = freeF(p);
                    if (f < 0) throw new Err(-24);
                    p.f[f] = open(vb, p, vc);
                    done(t, a, f);
                    return;
                }
                case 51:
                    if (o == null) throw new Err(-9);
                    p.f[vb] = null;
                    close(o);
                    done(t, a, 0);
                    return;
                case 52: read(t, p, a, c, o); return;
                case 53: write(t, p, a, vc, o); return;
                case 54:
                    if (o == null) throw new Err(-9);
                    if (o.kind != 'f') throw new Err(-29);
                    if (vc < 0 || vc > 80) throw new Err(-22);
                    o.pos = vc;
                    done(t, a, 0);
                    return;
                case 55: k.newInode(vb, p, 2, 493, 0); k.commit(); done(t, a, 0); return;
                case 56: {
                    int d = k.ok(k.walk(vb, p.dir, p.user, true, true));
                    int x = k.entry(d, k.last);
                    if (x < 0) throw new Err(-2);
                    if (!k.may(p.user, d, 3)) throw new Err(-1);
                    int i = k.cell(d, x) / 100;
                    if (k.kind(i) == 2 && !k.empty(i)) throw new Err(-39);
                    k.s(k.blk(d, x / 8), x % 8, 0);
                    k.s(10 + i, 3, k.g(10 + i, 3) - 1);
                    k.commit();
                    done(t, a, 0);
                    return;
                }
                case 57: {
                    int i = k.ok(k.walk(vb, p.dir, p.user, false, false));
                    if (k.kind(i) == 2) throw new Err(-1);
                    int d = k.ok(k.walk(vc, p.dir, p.user, true, true));
                    if (k.entry(d, k.last) >= 0) throw new Err(-17);
                    if (!k.may(p.user, d, 3)) throw new Err(-1);
                    k.put(d, k.last, i);
                    k.s(10 + i, 3, k.g(10 + i, 3) + 1);
                    k.commit();
                    done(t, a, 0);
                    return;
                }
                case 58: k.newInode(vb, p, 3, 511, vc); k.commit(); done(t, a, 0); return;
                case 59: rename(k, p, vb, vc); done(t, a, 0); return;
                case 60: {
                    if (vc < 0 || vc > 6) throw new Err(-22);
                    int i = k.ok(k.walk(vb, p.dir, p.user, true, false));
                    int v = vc == 0 ? i : vc < 6 ? k.g(10 + i, vc - 1) : 0;
                    if (vc == 6) { for (int n = 0; n < 10; n++) if (k.blk(i, n) > 0) v++; if (k.num(k.g(10 + i, 7)) >
                            0) v++; }
                    done(t, a, v);
                    return;
                }
                case 61: {
                    if (vc < 0 || vc > 511) throw new Err(-22);
                    int i = k.ok(k.walk(vb, p.dir, p.user, true, false));
                    if (p.user != 0 && k.owner(i) != p.user) throw new Err(-1);
                    k.s(10 + i, 1, vc);
                    k.commit();
                    done(t, a, 0);
                    return;
                }
                case 62: {
                    if (vc < 0 || vc / 10 > 4 || vc % 10 > 2) throw new Err(-22);
                    int i = k.ok(k.walk(vb, p.dir, p.user, true, false));
                    if (p.user != 0) throw new Err(-1);
                    int n = 100;
                    for (int q = 0; q < 10; q++) if (k.blk(i, q) > 0) n++;
                    if (k.num(k.g(10 + i, 7)) > 0) n++;
                    if (k.owner(i) >= 0) k.s(0, 3 + k.owner(i), k.g(0, 3 + k.owner(i)) - n);
                    k.s(10 + i, 2, vc);
                    k.s(0, 3 + vc / 10, k.g(0, 3 + vc / 10) + n);
                    k.commit();
                    done(t, a, 0);
                    return;
                }
                case 63: cd(p, vb); done(t, a, 0); return;
                case 64: {
                    if (t.b != null) {
                        if (safe < t.b.trans) throw new Wait('s', t.b.trans);
                        t.b = null;
                        done(t, a, 0);
                        return;
                    }
                    closeTrans();
                    if (phase == 1 || phase == 2) {
                        t.b = new Begun();
                        t.b.op = 64; t.b.trans = given;
                        throw new Wait('s', given);
                    }
                    done(t, a, 0);
                    return;
                }
                case 65: {
                    if (vc < 0 || vc > 80) throw new Err(-22);
                    int i = k.ok(k.walk(vb, p.dir, p.user, true, false));
                    if (k.kind(i) == 2) throw new Err(-21);
                    if (!k.may(p.user, i, 2)) throw new Err(-1);
                    leaseCheck(i, no);
                    int b = 0;
                    if (k.size(i) > vc && vc % 8 != 0) b = k.blk(i, vc / 8);
                    if (b > 0) {
                        if (!held.contains(b)) fetch(b, p.user);
                        for (int n = vc % 8; n < 8; n++) k.s(b, n, 0);
                    }
                    k.freeFrom(i, (vc + 7) / 8);
                    k.s(10 + i, 4, vc);
                    k.commit();
                    use(b);
                    done(t, a, 0);
                    return;
                }
                case 66: {
                    int n = 0;
                    for (Open q : p.f) if (q == null) n++;
                    if (n < 2) throw new Err(-24);
                    if (freeO() < 2 || freePipe() < 0) throw new Err(-23);
                    int pi = freePipe();
                    int x = freeF(p);
                    p.f[x] = add('r'); p.f[x].flags = 1; p.f[x].pipe = pi;
                    int y = freeF(p);
                    p.f[y] = add('w'); p.f[y].flags = 2; p.f[y].pipe = pi;
                    done(t, a, 10 * x + y);
                    return;
                }
                case 67: {
                    if (o == null) throw new Err(-9);
                    if (vc < 0 || vc > 5) throw new Err(-22);
                    Open was = p.f[vc];
                    if (was != o) {
                        p.f[vc] = o;
                        o.users++;
                        if (was != null) close(was);
                    }
                    done(t, a, vc);
                    return;
                }
                case 68: {
                    if (vc < 0 || vc / 10 > 7) throw new Err(-22);
                    if (o == null || o.kind != 'f') throw new Err(-9);
                    if ((o.flags & 3) != 3) throw new Err(-1);
                    Page g = p.g[vc / 10];
                    if (g.s != 'n') throw new Err(-16);
                    g.s = 'm'; g.at = 100 * o.inode + vc % 10;
                    done(t, a, 0);
                    return;
                }
                case 69:
                    if (vb < 0 || vb > 7 || p.g[vb].s != 'm') throw new Err(-22);
                    p.g[vb].s = 'n';
                    done(t, a, 0);
                    return;
                case 70: {
                    if (vc < 0) throw new Err(-22);
                    int i = k.ok(k.walk(vb, p.dir, p.user, true, false));
                    if (k.kind(i) != 2) throw new Err(-20);
                    if (!k.may(p.user, i, 4)) throw new Err(-1);
                    done(t, a, vc < k.size(i) ? k.cell(i, vc) : 0);
                    return;
                }
                default: // 71
                    if (vb == 0) { endJob(p); done(t, a, 0); return; }
                    if (p.job.size() == 40) throw new Err(-27);
                    p.job.add(vb);
                    done(t, a, 0);
            }
        }
        void endJob(Proc p) { if (!p.job.isEmpty()) { jobs.add(p.job); p.job = new ArrayList<>(); } }

        void cd(Proc p, int path) {
            Cmd k = new Cmd();
            int i = k.ok(k.walk(path, p.dir, p.user, true, false));
            if (k.kind(i) != 2) throw new Err(-20);
            if (!k.may(p.user, i, 1)) throw new Err(-1);
            p.dir = i;
        }

        void rename(Cmd k, Proc p, int vb, int vc) {
            int d1 = k.ok(k.walk(vb, p.dir, p.user, true, true));
            int x1 = k.entry(d1, k.last);
            if (x1 < 0) throw new Err(-2);
            if (!k.may(p.user, d1, 3)) throw new Err(-1);
            int i = k.cell(d1, x1) / 100;
            int d2 = k.ok(k.walk(vc, p.dir, p.user, true, true));
            int name = k.last;
            if (!k.may(p.user, d2, 3)) throw new Err(-1);
            if (k.kind(i) == 2 && inside(k, d2, i, new HashSet<>())) throw new Err(-22);
            int x2 = k.entry(d2, name);
            if (x2 >= 0) {
                int j = k.cell(d2, x2) / 100;
                if (j == i) return;
                if (k.kind(j) == 2 && k.kind(i) != 2) throw new Err(-21);
                if (k.kind(j) != 2 && k.kind(i) == 2) throw new Err(-20);
                if (k.kind(j) == 2 && !k.empty(j)) throw new Err(-39);
                k.s(10 + j, 3, k.g(10 + j, 3) - 1);
                k.s(k.blk(d2, x2 / 8), x2 % 8, 100 * i + name);
            } else k.put(d2, name, i);
            k.s(k.blk(d1, x1 / 8), x1 % 8, 0);
            k.commit();
        }
        boolean inside(Cmd k, int what, int dir, Set<Integer> seen) {
            if (what == dir) return true;
            if (!seen.add(dir)) return false;
            for (int x = 0; x < k.size(dir); x++) {
                int v = k.cell(dir, x);
                if (k.good(v) && k.kind(v / 100) == 2 && inside(k, what, v / 100, seen)) return true;
            }
            return false;
        }

        void read(Th t, Proc p, int a, int c, Open o) {
            int v;
            int told = 1;
            if (o == null) { v = 0; told = -9; }
            else if ((o.flags & 1) == 0) { v = 0; told = -1; }
            else if (o.kind == 'f') {
                if (o.pos >= new Cmd().size(o.inode)) { v = 0; told = 0; }
                else { v = readCell(o.inode, o.pos, p.user); o.pos++; }
            } else if (o.kind == 't') {
                if (keys.isEmpty()) throw new Wait('k', 0);
                v = keys.remove(0);
                if (v < 0) { v = 0; told = 0; }
            } else if (o.kind == 'r') {
                List<Integer> q = pipes.get(o.pipe);
                if (q.isEmpty()) {
                    if (pipeHas(o.pipe, 'w')) throw new Wait('p', o.pipe);
                    v = 0; told = 0;
                } else { v = q.remove(0); wake('p', o.pipe); }
            } else {
                End e = o.end;
                if (!e.in.isEmpty()) v = e.in.remove(0);
                else if (e.otherClosed) { v = 0; told = 0; }
                else if (e.s == 'b') { v = 0; told = -104; }
                else throw new Wait('n', e.no);
            }
            t.r[a] = v;
            t.r[c] = told;
            next(t);
        }

        void write(Th t, Proc p, int a, int v, Open o) {
            if (o == null) throw new Err(-9);
            if ((o.flags & 2) == 0) throw new Err(-1);
            if (o.kind == 'f') {
                int x = (o.flags & 16) != 0 ? new Cmd().size(o.inode) : o.pos;
                write(o.inode, x, v, p.user, no);
                o.pos = x + 1;
                add(p.user, 'w', 1);
            } else if (o.kind == 't') {
                shown.add(v);
            } else if (o.kind == 'w') {
                if (!pipeHas(o.pipe, 'r')) { done(t, a, -32); signal(p, 6, true); settle(p); return; }
                if (pipes.get(o.pipe).size() == 6) throw new Wait('p', o.pipe);
                pipes.get(o.pipe).add(v);
                wake('p', o.pipe);
            } else {
                End e = o.end;
                if (e.s == 'b') throw new Err(-104);
                if (e.out.size() == 6) throw new Wait('n', e.no);
                e.out.add(v);
                sendMore(e);
                add(p.user, 'n', 1);
            }
            done(t, a, 1);
        }

        void giveUpInode() {
            if (phase != 0) return;
            Cmd k = new Cmd();
            for (int i = 1; i < 20; i++) {
                if (k.kind(i) == 0 || k.g(10 + i, 3) != 0) continue;
                boolean used = false;
                for (Proc p : ps) {
                    if (p == null) continue;
                    used |= p.dir == i;
                    for (Page g : p.g) used |= g.s == 'm' && g.at / 100 == i;
                }
                for (Open o : of) used |= o != null && o.kind == 'f' && o.inode == i;
                if (used) continue;
                if (k.kind(i) != 3) k.freeFrom(i, 0);
                int o = k.owner(i);
                if (o >= 0) k.s(0, 3 + o, k.g(0, 3 + o) - 100);
                k.s(0, 2, k.g(0, 2) & ~(1 << i));
                for (int c = 0; c < 8; c++) k.s(10 + i, c, 0);
                try { k.commit(); } catch (Wait w) { return; }
                return;
            }
        }

        // ---------------- terminal
        void key(int k) {
            if (k >= 32 && k <= 126) { if (line.size() < 40) line.add(k); }
            else if (k == 8) { if (!line.isEmpty()) line.remove(line.size() - 1); }
            else if (k == 21) line.clear();
            else if (k == 10) { line.add(10); push(); }
            else if (k == 4) { if (line.isEmpty()) line.add(-1); push(); }
            else if (k == 3) { line.clear(); front(2); }
            else if (k == 26) front(9);
        }
        void push() {
            if (keys.size() + line.size() <= 160) { keys.addAll(line); wake('k', 0); }
            line.clear();
        }
        void front(int s) {
            if (term == null) return;
            List<Proc> l = new ArrayList<>(term.sh.jobs.get(0).ps);
            l.sort((a, b) -> a.no - b.no);
            for (Proc p : l) if (!p.ended) { signal(p, s, false); settle(p); }
        }

        // ---------------- connections
        List<End> waiting(int pt) {
            List<End> l = new ArrayList<>();
            for (End e : en) if (e != null && e.waits > 0 && e.port == pt) l.add(e);
            l.sort((a, b) -> Long.compare(a.waits, b.waits));
            return l;
        }
        End byId(int id) { for (End e : en) if (e != null && e.id == id) return e; return null; }
        int freeE() { for (int i = 0; i < 6; i++) if (en[i] == null) return i; return -1; }
        End newEnd(char s, int other, int peer, int pt) {
            End e = new End();
            e.no = freeE(); e.id = ++ids; e.s = s; e.other = other; e.peer = peer; e.port = pt;
            en[e.no] = e;
            return e;
        }
        void due(End e) { if (e.due == 0) e.due = T + 12; }
        void sendMore(End e) {
            int n = e.out.size() + (e.closing ? 1 : 0);
            while (e.sent < 3 && e.sent < n) {
                if (e.sent < e.out.size()) send(no, e.other, 'D', null, e.peer, e.id, e.first + e.sent,
                        e.out.get(e.sent));
                else send(no, e.other, 'F', null, e.peer, e.id, e.first + e.sent);
                e.sent++;
                due(e);
            }
        }
        void breakEnd(End e) {
            if (e.s == 'c') en[e.no] = null;
            else { e.s = 'b'; e.due = 0; ev(no, 'b', e.no); wake('n', e.no); }
        }
        void shut(End e) {
            if (e.s == 'e') { e.s = 'c'; e.closing = true; sendMore(e); }
            else en[e.no] = null;
        }
        void endDue(End e) {
            if (++e.tries == 6) { breakEnd(e); return; }
            e.due = T + 12;
            if (e.s == 'o') send(no, e.other, 'O', null, e.id, e.port);
            e.sent = 0;
            sendMore(e);
        }

        void netRow(Th t, Proc p, int op, int a, int vb, int vc) {
            switch (op) {
                case 80:
                    if (vb < 0 || vb > 9) throw new Err(-22);
                    if (port[vb] != null) throw new Err(-98);
                    port[vb] = p;
                    done(t, a, 0);
                    return;
                case 81: {
                    if (t.b == null) {
                        if (vb < 0 || vb > 2 || vc < 0 || vc > 9) throw new Err(-22);
                        if (freeF(p) < 0) throw new Err(-24);
                        if (freeE() < 0 || freeO() == 0) throw new Err(-23);
                        End e = newEnd('o', vb, -1, vc);
                        t.b = new Begun();
                        t.b.op = 81; t.b.end = e;
                        send(no, vb, 'O', null, e.id, vc);
                        due(e);
                        throw new Wait('n', e.no);
                    }
                    End e = t.b.end;
                    if (e.s == 'o') throw new Wait('n', e.no);
                    t.b = null;
                    if (e.s == 'b') { en[e.no] = null; throw new Err(e.refused ? -111 : -110); }
                    if (freeF(p) < 0) { shut(e); throw new Err(-24); }
                    if (freeO() == 0) { shut(e); throw new Err(-23); }
                    int f = freeF(p);
                    p.f[f] = add('n');
                    p.f[f].end = e; p.f[f].flags = 3;
                    done(t, a, f);
                    return;
                }
                case 82: {
                    if (vb < 0 || vb > 9 || port[vb] != p) throw new Err(-22);
                    List<End> l = waiting(vb);
                    if (l.isEmpty()) throw new Wait('n', -1 - vb);
                    if (freeF(p) < 0) throw new Err(-24);
                    if (freeO() == 0) throw new Err(-23);
                    End e = l.get(0);
                    e.waits = 0;
                    int f = freeF(p);
                    p.f[f] = add('n');
                    p.f[f].end = e; p.f[f].flags = 3;
                    done(t, a, f);
                    return;
                }
                case 83: case 84: {
                    if (t.b != null) {
                        if (!t.b.over) throw new Wait('f', t.no);
                        int v = t.b.ans;
                        t.b = null;
                        done(t, a, v);
                        return;
                    }
                    if (vb < 1 || vb > 26 || op == 83 && (vc < 0 || vc > 9)) throw new Err(-22);
                    if (op == 84 && knows[vb] != null && T < knows[vb][1] + 60) { done(t, a, knows[vb][0]); return; }
                    t.b = new Begun();
                    t.b.op = op; t.b.number = ++numbers; t.b.v = new int[] {op, vb, vc};
                    reqSend(t);
                    throw new Wait('f', t.no);
                }
                default: farRow(t, p, op, a, vb, vc);
            }
        }
        void farRow(Th t, Proc p, int op, int a, int vb, int vc) {
            if (t.b != null) {
                if (!t.b.over) throw new Wait('x', t.no);
                Begun b = t.b;
                t.b = null;
                if (op == 85) { t.r[a] = b.cell; t.r[6] = b.ans; next(t); }
                else { if (b.ans == 1) add(p.user, 'w', 1); done(t, a, b.ans); }
                return;
            }
            int x = t.r[7];
            if (vb < 0 || vb > 2 || vb == no || vc < 0 || x < 0 || op == 86 && x > 79) {
                if (op == 85) { t.r[a] = 0; t.r[6] = -22; next(t); } else done(t, a, -22);
                return;
            }
            if (op == 85) {
                for (Copy k : copies) {
                    if (k.m == vb && k.path == vc && k.user == p.user && k.end > T) {
                        t.r[a] = x < k.cells.length ? k.cells[x] : 0;
                        t.r[6] = x < k.cells.length ? 1 : 0;
                        next(t);
                        return;
                    }
                }
            }
            if (far != null) throw new Wait('x', t.no);
            far = t;
            t.b = new Begun();
            t.b.op = op; t.b.number = ++numbers; t.b.to = vb; t.b.v = new int[] {op, p.user, vc, x, t.r[6]};
            reqSend(t);
            throw new Wait('x', t.no);
        }
        void reqSend(Th t) {
            Begun b = t.b;
            b.sent++;
            b.due = T + (b.op < 85 ? 16 : 20);
            if (b.op < 85) send(no, 0, 'N', null, b.number, b.v[0], b.v[1], b.v[2]);
            else send(no, b.to, 'R', null, b.number, b.v[0], b.v[1], b.v[2], b.v[3], b.v[4]);
        }
        void reqOver(Th t, int ans, int cell) {
            t.b.over = true;
            t.b.ans = ans;
            t.b.cell = cell;
            if (t.b.op < 85) wake('f', t.no); else { far = null; wake('x', 0); }
        }

        void arrive(Pk k) {
            int[] v = k.v;
            switch (k.kind) {
                case 'O': {
                    for (End e : en) if (e != null && e.other == k.from && e.peer == v[0]) { send(no, k.from, 'A',
                            null, v[0], e.id); return; }
                    if (port[v[1]] == null || waiting(v[1]).size() >= 3 || freeE() < 0) { send(no, k.from, 'X', null,
                            v[0], 0); return; }
                    End e = newEnd('e', k.from, v[0], v[1]);
                    e.waits = ++seq;
                    wake('n', -1 - v[1]);
                    send(no, k.from, 'A', null, v[0], e.id);
                    return;
                }
                case 'X': {
                    End e = byId(v[0]);
                    if (e == null || e.s == 'b') return;
                    e.refused = true;
                    breakEnd(e);
                    wake('n', e.no);
                    return;
                }
                case 'A': case 'D': case 'F': case 'K': {
                    End e = byId(v[0]);
                    if (e == null || e.s == 'b') { send(no, k.from, 'X', null, v[1], v[0]); return; }
                    if (k.kind == 'A') {
                        if (e.s == 'o') { e.s = 'e'; e.peer = v[1]; e.due = 0; e.tries = 0; wake('n', e.no); }
                        return;
                    }
                    if (e.s == 'o') return;
                    if (k.kind == 'D') {
                        if (v[2] == e.exp && (e.s == 'c' || e.in.size() < 6)) {
                            e.exp++;
                            if (e.s == 'e') { e.in.add(v[3]); }
                            wake('n', e.no);
                        }
                        send(no, k.from, 'K', null, v[1], v[0], e.exp);
                    } else if (k.kind == 'F') {
                        if (v[2] == e.exp) { e.exp++; e.otherClosed = true; wake('n', e.no); }
                        send(no, k.from, 'K', null, v[1], v[0], e.exp);
                    } else {
                        int n = 0;
                        boolean close = false;
                        while (e.first < v[2] && e.sent > 0) {
                            if (e.out.isEmpty()) { e.closing = false; close = true; } else e.out.remove(0);
                            e.first++;
                            e.sent--;
                            n++;
                        }
                        if (n > 0) {
                            e.tries = 0;
                            if (close) en[e.no] = null;
                            wake('n', e.no);
                            if (!close) {
                                e.due = 0;
                                if (e.sent > 0) due(e);
                                sendMore(e);
                            }
                        }
                    }
                    return;
                }
                case 'N': {
                    int r = 0;
                    if (v[1] == 83) names[v[2]] = 10 * k.from + v[3];
                    else r = names[v[2]] < 0 ? -2 : names[v[2]];
                    send(no, k.from, 'M', null, v[0], r);
                    return;
                }
                case 'M':
                    for (Th t : ts) {
                        if (t != null && t.b != null && (t.b.op == 83 || t.b.op == 84) && t.b.number == v[0] &&
                                !t.b.over) {
                            if (t.b.op == 84 && v[1] != -2) knows[t.b.v[1]] = new int[] {v[1], T};
                            reqOver(t, v[1], 0);
                        }
                    }
                    return;
                case 'R': {
                    if (v[0] == ansNo[k.from]) { answer(k.from); return; }
                    if (v[0] < ansNo[k.from]) return;
                    for (SReq q : row) if (q.from == k.from && q.number == v[0]) return;
                    SReq q = new SReq();
                    q.from = k.from; q.number = v[0]; q.read = v[1] == 85; q.user = v[2]; q.path = v[3]; q.index =
                            v[4]; q.value = v[5];
                    row.add(q);
                    return;
                }
                case 'Q':
                    for (Th t : ts) {
                        if (t != null && t.b != null && (t.b.op == 85 || t.b.op == 86) && t.b.number == v[0] &&
                                !t.b.over) {
                            if (v[1] < 0) reqOver(t, v[1], 0);
                            else if (t.b.op == 86) { dropCopies(k.from, v[2]); reqOver(t, 1, 0); }
                            else {
                                Copy c = new Copy();
                                c.m = k.from; c.path = t.b.v[2]; c.user = t.b.v[1]; c.inode = v[2]; c.end = v[3];
                                        c.cells = k.data.clone();
                                boolean had = copies.removeIf(o -> o.m == c.m && o.path == c.path && o.user == c.user);
                                if (!had && copies.size() == 4) copies.remove(0);
                                copies.add(c);
                                int x = t.b.v[3];
                                reqOver(t, x < c.cells.length ? 1 : 0, x < c.cells.length ? c.cells[x] : 0);
                            }
                        }
                    }
                    return;
                case 'T': dropCopies(k.from, v[0]); send(no, k.from, 'G', null, v[0]); return;
                case 'G': leaseGone(v[0], k.from); return;
                default: throw new Error();
            }
        }
        void dropCopies(int from, int inode) { copies.removeIf(o -> o.m == from && o.inode == inode); }
        void answer(int to) { send(no, to, 'Q', (int[]) ans[to][1], (int[]) ans[to][0]); }

        void serve() {
            if (row.isEmpty()) return;
            SReq q = row.get(0);
            int res;
            int i = -1;
            int end = 0;
            int[] data = null;
            try {
                Cmd k = new Cmd();
                i = k.ok(k.walk(q.path, 0, q.user, true, false));
                if (k.kind(i) == 2) throw new Err(-21);
                if (!k.may(q.user, i, q.read ? 4 : 2)) throw new Err(-1);
                if (q.read) {
                    for (int n = 0; n < 10; n++) { int b = k.blk(i, n); if (b > 0 && !held.contains(b)) fetch(b, -1); }
                    data = new int[k.size(i)];
                    for (int x = 0; x < data.length; x++) data[x] = readCell(i, x, -1);
                    end = T + 40;
                    lease[i][q.from] = end;
                    leaseTold[i][q.from] = false;
                    lastLease = Math.max(lastLease, end);
                    ev(no, 'v', i);
                } else {
                    write(i, q.index, q.value, -1, q.from);
                    leaseGone(i, q.from);
                }
                res = 1;
            } catch (Wait w) { return; }
            catch (Err e) { res = e.e; }
            row.remove(0);
            ansNo[q.from] = q.number;
            ans[q.from] = new Object[] {new int[] {q.number, res, i, end}, data};
            answer(q.from);
        }

        // ---------------- faults
        List<Object[]> faults() {
            List<Object[]> l = new ArrayList<>();
            int[][] d = up ? mem : disk;
            Cmd k = new Cmd();
            for (int i = 0; i < 20; i++) {
                int v = d[10 + i][0];
                int ii = i;
                if (i == 0 && v != 2 || v < 0 || v > 3) l.add(new Object[] {'k', i, (Runnable) () -> {
                    Arrays.fill(disk[10 + ii], 0);
                    if (ii == 0) { disk[10][0] = 2; disk[10][1] = 493; disk[10][3] = 1; }
                }});
            }
            Set<Integer> met = new HashSet<>();
            for (int i = 0; i < 20; i++) {
                if (k.kind(i) != 1 && k.kind(i) != 2) continue;
                number(l, met, i, 10 + i, 5);
                number(l, met, i, 10 + i, 6);
                number(l, met, i, 10 + i, 7);
                int b = k.num(d[10 + i][7]);
                if (b > 0) for (int c = 0; c < 8; c++) number(l, met, i, b, c);
            }
            int[] n = new int[20];
            for (int i = 0; i < 20; i++) {
                if (k.kind(i) != 2) continue;
                for (int x = 0; x < k.size(i); x++) {
                    int b = k.blk(i, x / 8);
                    if (b == 0) continue;
                    int v = d[b][x % 8];
                    int xx = x;
                    if (k.good(v)) n[v / 100]++;
                    else if (v != 0) l.add(new Object[] {'e', i, (Runnable) () -> disk[b][xx % 8] = 0});
                }
            }
            for (int i = 1; i < 20; i++) {
                if (k.kind(i) == 0 || d[10 + i][3] == n[i]) continue;
                int ii = i;
                int w = n[i];
                l.add(new Object[] {'l', i, (Runnable) () -> { disk[10 + ii][3] = w; if (w == 0) Arrays.fill(disk[10
                        + ii], 0); }});
            }
            int[] map = new int[8];
            for (int i = 0; i < 20; i++) {
                if (k.kind(i) == 0) continue;
                map[2] |= 1 << i;
                int c = 100;
                if (k.kind(i) != 3) {
                    for (int q = 0; q < 11; q++) {
                        int b = q < 10 ? k.blk(i, q) : k.num(d[10 + i][7]);
                        if (b == 0) continue;
                        c++;
                        if (b < 60) map[0] |= 1 << b - 30; else map[1] |= 1 << b - 60;
                    }
                }
                if (k.owner(i) >= 0) map[3 + k.owner(i)] += c;
            }
            for (int c = 0; c < 8; c++) {
                int cc = c;
                if (d[0][c] != map[c]) l.add(new Object[] {'m', c, (Runnable) () -> disk[0][cc] = map[cc]});
            }
            return l;
        }
        void number(List<Object[]> l, Set<Integer> met, int i, int b, int c) {
            int v = (up ? mem : disk)[b][c];
            if (v == 0) return;
            if (v < 30 || v > 69) l.add(new Object[] {'p', i, (Runnable) () -> disk[b][c] = 0});
            else if (!met.add(v)) l.add(new Object[] {'d', i, (Runnable) () -> disk[b][c] = 0});
        }
        int mendAll() {
            int n = 0;
            while (true) {
                List<Object[]> l = faults();
                if (l.isEmpty()) return n;
                for (Object[] f : l) ((Runnable) f[2]).run();
                n += l.size();
            }
        }

        int crash() {
            int lost = phase <= 2 ? trans.size() : 0;
            ev(no, 'x', lost);
            up = false;
            wipe();
            return lost;
        }
        int boot() {
            int[] r = disk[1];
            int n = 0;
            if (r[1] >= 1 && r[1] <= 8) {
                n = r[1];
                List<Integer> l = new ArrayList<>();
                for (int i = 0; i < r[1]; i++) {
                    int v = r[2 + i / 2];
                    int b = i % 2 == 0 ? v / 100 : v % 100;
                    if (v < 0 || !(b == 0 || b >= 10 && b <= 69)) n = 0;
                    l.add(b);
                }
                if (n > 0) {
                    for (int i = 0; i < n; i++) disk[l.get(i)] = disk[2 + i].clone();
                    for (int c = 1; c < 8; c++) r[c] = 0;
                }
            }
            given = r[0] < 0 || r[0] > 999999 ? 0 : r[0];
            safe = given;
            mendAll();
            whole = true;
            for (int b = 0; b < 70; b++) if (b == 0 || b >= 10) whole &= Arrays.equals(disk[b], should[b]);
            should = copy(disk);
            mem = copy(disk);
            up = true;
            grace = lastLease > T ? lastLease : 0;
            ev(no, 'y', n);
            return n;
        }
        boolean sound() {
            long n = 0;
            for (int u = 0; u < 5; u++) n += get(u, 't');
            return n == busy && (spoiled || faults().isEmpty());
        }
    }

    // ---------------- the shell
    static final class Cmdl { List<List<int[]>> words = new ArrayList<>(); List<Object[]> turns = new ArrayList<>(); }
    static final class Pipe { String join; boolean behind; List<Cmdl> cmds = new ArrayList<>(); }
    static final class Job { List<Proc> ps = new ArrayList<>(); Proc last; }

    final class Sh {
        final M x;
        final Proc self;
        int status;
        final String[] vars = new String[26];
        int source = -1; // -1 the terminal, -2 to be opened, otherwise a file number
        StringBuilder part = new StringBuilder();
        boolean atEnd;
        LinkedList<Pipe> left = new LinkedList<>();
        final List<Job> jobs = new ArrayList<>();

        Sh(M x, Proc self) {
            this.x = x; this.self = self;
            Arrays.fill(vars, "");
            for (int i = 0; i < 5; i++) jobs.add(new Job());
        }
        void bad(int st) {
            if (self.f[1] != null && self.f[1].kind == 't') { x.shown.add((int) '?'); x.shown.add(10); }
            status = st;
        }
        int freeJob() { for (int j = 1; j < 5; j++) if (jobs.get(j).ps.isEmpty()) return j; return -1; }

        void step(Th t) {
            for (int j = 1; j < 5; j++) {
                Job q = jobs.get(j);
                for (Proc p : new ArrayList<>(q.ps)) if (p.ended) { q.ps.remove(p); x.ps[p.no] = null; }
            }
            Job f = jobs.get(0);
            if (!f.ps.isEmpty()) {
                boolean allEnded = true, allStopped = true;
                for (Proc p : f.ps) if (!p.ended) { allEnded = false; if (!p.stopped) allStopped = false; }
                if (allEnded) {
                    for (Proc p : f.ps) x.ps[p.no] = null;
                    status = f.last.code;
                    jobs.set(0, new Job());
                    return;
                }
                if (!allStopped) throw new Wait('c', self.no);
                status = 137;
                int j = freeJob();
                if (j < 0) throw new Wait('c', self.no);
                jobs.set(j, f);
                jobs.set(0, new Job());
                return;
            }
            if (!left.isEmpty()) { pipe(t); return; }
            String l;
            if (source == -1) {
                int n = 0;
                while (n < x.keys.size() && x.keys.get(n) != 10 && x.keys.get(n) != -1) n++;
                if (n == x.keys.size()) throw new Wait('k', 0);
                if (n == 0 && x.keys.get(0) == -1) { x.keys.remove(0); x.endP(self, status); return; }
                StringBuilder b = new StringBuilder();
                for (int i = 0; i < n; i++) b.append((char) (int) x.keys.remove(0));
                if (x.keys.get(0) == 10) x.keys.remove(0);
                l = b.toString();
            } else if (source == -2) {
                if (self.arg[0] == 0) { x.endP(self, 2); return; }
                int n = x.freeF(self);
                try {
                    if (n < 0) throw new Err(-24);
                    self.f[n] = x.open(self.arg[1], self, 1);
                } catch (Err e) { x.endP(self, 1); return; }
                source = n;
                return;
            } else {
                Open o = self.f[source];
                if (atEnd) { x.endP(self, status); return; }
                while (true) {
                    if (o.pos >= x.new Cmd().size(o.inode)) {
                        atEnd = true;
                        if (part.length() == 0) { x.endP(self, status); return; }
                        break;
                    }
                    int v = x.readCell(o.inode, o.pos, self.user);
                    o.pos++;
                    if (v == 10) break;
                    if (v >= 32 && v <= 126 && part.length() < 40) part.append((char) v);
                }
                l = part.toString();
                part = new StringBuilder();
            }
            List<Pipe> ps = parse(l);
            if (ps == null) bad(2); else left.addAll(ps);
        }

        // tokens: String for signs, List<int[]> for words; null if faulty
        List<Object> tokens(String l) {
            List<Object> out = new ArrayList<>();
            int i = 0;
            while (i < l.length()) {
                char c = l.charAt(i);
                if (c == ' ') { i++; continue; }
                if (";&|<>".indexOf(c) >= 0) {
                    String two = i + 1 < l.length() ? l.substring(i, i + 2) : "";
                    if (two.equals("&&") || two.equals("||") || two.equals(">>")) { out.add(two); i += 2; }
                    else { out.add("" + c); i++; }
                    continue;
                }
                List<int[]> w = new ArrayList<>();
                boolean q = false;
                while (i < l.length()) {
                    c = l.charAt(i);
                    if (q && c == '"') { q = false; i++; continue; }
                    if (!q && (c == ' ' || ";&|<>".indexOf(c) >= 0)) break;
                    if (!q && c == '"') { q = true; i++; continue; }
                    if (!q && c == '\'') {
                        int e = l.indexOf('\'', i + 1);
                        if (e < 0) return null;
                        for (int n = i + 1; n < e; n++) w.add(new int[] {0, l.charAt(n)});
                        i = e + 1;
                        continue;
                    }
                    if (c == '$') {
                        if (i + 1 >= l.length()) return null;
                        char d = l.charAt(i + 1);
                        if (d != '?' && (d < 'a' || d > 'z')) return null;
                        w.add(new int[] {1, d});
                        i += 2;
                        continue;
                    }
                    w.add(new int[] {0, c});
                    i++;
                }
                if (q) return null;
                out.add(w);
            }
            return out;
        }
        @SuppressWarnings("unchecked")
        List<Pipe> parse(String l) {
            List<Object> tk = tokens(l);
            if (tk == null) return null;
            List<Pipe> out = new ArrayList<>();
            int i = 0;
            int total = 0;
            String join = ";";
            while (i < tk.size()) {
                Pipe p = new Pipe();
                p.join = join;
                while (true) {
                    Cmdl c = new Cmdl();
                    while (i < tk.size()) {
                        Object o = tk.get(i);
                        if (o instanceof List) { c.words.add((List<int[]>) o); i++; }
                        else if (o.equals("<") || o.equals(">") || o.equals(">>")) {
                            if (i + 1 >= tk.size() || !(tk.get(i + 1) instanceof List)) return null;
                            c.turns.add(new Object[] {o, tk.get(i + 1)});
                            i += 2;
                        } else break;
                    }
                    if (c.words.isEmpty() || c.words.size() > 6) return null;
                    if (++total > 8) return null;
                    p.cmds.add(c);
                    if (i < tk.size() && tk.get(i).equals("|")) { i++; continue; }
                    break;
                }
                out.add(p);
                if (i == tk.size()) return out;
                join = (String) tk.get(i++);
                if (join.equals("&")) p.behind = true;
                if (i == tk.size()) return join.equals(";") || join.equals("&") ? out : null;
            }
            return out;
        }
        String word(List<int[]> w) {
            StringBuilder b = new StringBuilder();
            for (int[] q : w) b.append(q[0] == 0 ? "" + (char) q[1] : q[1] == '?' ? "" + status : vars[q[1] - 'a']);
            return b.length() > 40 ? b.substring(0, 40) : b.toString();
        }
        int number(String w) { return w.matches("[0-9]{1,9}") ? Integer.parseInt(w) : 0; }
        int value(String w) {
            if (w.matches("[0-9]{1,9}")) return Integer.parseInt(w);
            if (w.equals("/")) return 0;
            if (!w.matches("/?[a-z](/[a-z]){0,5}")) return Integer.MIN_VALUE;
            int v = 0;
            for (char c : w.toCharArray()) if (c != '/') v = v * 27 + c - 'a' + 1;
            return w.startsWith("/") ? v : -v;
        }
        int program(String w) {
            if (w.matches("[0-9]{1,2}")) return Integer.parseInt(w) <= 15 ? Integer.parseInt(w) : -1;
            int i = List.of("echo", "cat", "rm", "mkdir", "ln", "mv", "chmod", "ls", "wc", "sleep", "lp", "sync",
                    "sh").indexOf(w);
            return i < 0 ? -1 : 16 + i;
        }
        @SuppressWarnings("unchecked")
        void pipe(Th t) {
            Pipe p = left.getFirst();
            if (p.join.equals("&&") && status != 0 || p.join.equals("||") && status == 0) { left.removeFirst();
                    return; }
            List<List<String>> ws = new ArrayList<>();
            List<List<Object[]>> turns = new ArrayList<>();
            boolean anyTurn = false;
            for (Cmdl c : p.cmds) {
                List<String> w = new ArrayList<>();
                for (List<int[]> q : c.words) w.add(word(q));
                ws.add(w);
                List<Object[]> l = new ArrayList<>();
                for (Object[] q : c.turns) { l.add(new Object[] {q[0], value(word((List<int[]>) q[1])), null});
                        anyTurn = true; }
                turns.add(l);
            }
            if (p.cmds.size() == 1 && !p.behind && !anyTurn) {
                List<String> w = ws.get(0);
                String a = w.get(0);
                if (w.size() == 1 && a.matches("(?s)[a-z]=.*")) { vars[a.charAt(0) - 'a'] = a.substring(2); status =
                        0; left.removeFirst(); return; }
                if (w.size() == 2 && a.equals("cd")) {
                    left.removeFirst();
                    try { x.cd(self, value(w.get(1))); status = 0; } catch (Err e) { status = 1; }
                    return;
                }
                if (a.equals("exit") && w.size() <= 2) { x.endP(self, w.size() == 1 ? status : number(w.get(1)) %
                        256); return; }
                if (a.equals("fg") && w.size() == 2) {
                    left.removeFirst();
                    int j = w.get(1).matches("[0-9]{1,9}") ? Integer.parseInt(w.get(1)) : -1;
                    if (j < 1 || j > 4 || jobs.get(j).ps.isEmpty()) { status = 1; return; }
                    jobs.set(0, jobs.get(j));
                    jobs.set(j, new Job());
                    List<Proc> l = new ArrayList<>(jobs.get(0).ps);
                    l.sort((q, r) -> q.no - r.no);
                    for (Proc q : l) if (!q.ended && q.stopped) { x.signal(q, 10, false); x.settle(q); }
                    return;
                }
                if (a.equals("wait") && w.size() == 1) {
                    for (int j = 1; j < 5; j++) for (Proc q : jobs.get(j).ps) if (!q.ended && !q.stopped) throw new
                            Wait('c', self.no);
                    left.removeFirst();
                    status = 0;
                    return;
                }
                if (a.equals("kill") && w.size() == 3) {
                    left.removeFirst();
                    int s = number(w.get(1));
                    int n = number(w.get(2));
                    Proc q = n >= 1 && n < 10 ? x.ps[n] : null;
                    if (s < 1 || s > 11 || q == null || q.ended || self.user != 0 && q.user != self.user) { status =
                            1; return; }
                    status = 0;
                    x.signal(q, s, q == self);
                    x.settle(q);
                    return;
                }
            }
            for (List<String> w : ws) if (program(w.get(0)) < 0) { left.removeFirst(); bad(127); return; }
            List<Open> opened = new ArrayList<>();
            try {
                for (List<Object[]> l : turns) {
                    for (Object[] q : l) {
                        int fl = q[0].equals("<") ? 1 : q[0].equals(">") ? 14 : 22;
                        Open o = x.open((Integer) q[1], self, fl);
                        o.flags = fl & 19;
                        q[2] = o;
                        opened.add(o);
                    }
                }
            } catch (Wait w) {
                for (Open o : opened) x.close(o);
                throw w;
            } catch (Err e) {
                for (Open o : opened) x.close(o);
                left.removeFirst();
                bad(1);
                return;
            }
            left.removeFirst();
            int n = ws.size();
            if (x.countFreeP() < n || x.countFreeT() < n || x.freePipes() < n - 1 || x.freeO() < 2 * (n - 1) ||
                    p.behind && freeJob() < 0) {
                for (Open o : opened) x.close(o);
                bad(126);
                return;
            }
            if (p.behind) status = 0;
            Open[] rd = new Open[n], wr = new Open[n];
            for (int i = 0; i + 1 < n; i++) {
                int pi = x.freePipe();
                rd[i + 1] = x.add('r'); rd[i + 1].flags = 1; rd[i + 1].pipe = pi;
                wr[i] = x.add('w'); wr[i].flags = 2; wr[i].pipe = pi;
            }
            Job job = new Job();
            for (int i = 0; i < n; i++) {
                int pg = program(ws.get(i).get(0));
                Proc q = x.make(self, self.user, pg);
                q.dir = self.dir;
                Open in = rd[i] != null ? rd[i] : self.f[0];
                Open out = wr[i] != null ? wr[i] : self.f[1];
                for (Object[] w : turns.get(i)) if (w[0].equals("<")) in = (Open) w[2]; else out = (Open) w[2];
                q.f[0] = in; if (in != null) in.users++;
                q.f[1] = out; if (out != null) out.users++;
                if (rd[i] != null) x.close(rd[i]);
                if (wr[i] != null) x.close(wr[i]);
                for (Object[] w : turns.get(i)) x.close((Open) w[2]);
                List<String> w = ws.get(i);
                q.arg[0] = w.size() - 1;
                int at = 13;
                for (int k = 1; k < w.size(); k++) {
                    q.arg[k] = value(w.get(k));
                    q.arg[6 + k] = at;
                    for (char c : w.get(k).toCharArray()) { if (at < 64) q.arg[at] = c; at++; }
                    at++;
                }
                if (pg == 28) { q.sh = new Sh(x, q); q.sh.source = -2; }
                job.ps.add(q);
                job.last = q;
            }
            jobs.set(p.behind ? freeJob() : 0, job);
        }
    }

    // ---------------- the face
    static RuntimeException iae() { return new IllegalArgumentException(); }
    static RuntimeException uoe() { return new UnsupportedOperationException(); }
    static RuntimeException ioobe() { return new IndexOutOfBoundsException(); }
    static RuntimeException ise() { return new IllegalStateException(); }
    static RuntimeException nse() { return new NoSuchElementException(); }
    static void in(int v, int lo, int hi) { if (v < lo || v > hi) throw iae(); }
    static void idx(int v, int lo, int hi) { if (v < lo || v > hi) throw ioobe(); }
    M mach(int k) { in(k, 0, 2); return m[k]; }
    M isup(M x) { if (!x.up) throw uoe(); return x; }
    static void what(char w, String s) { if (s.indexOf(w) < 0) throw iae(); }

    public int rows(int program, int at, int op, int a, int b, int c, int op2, int a2, int b2, int c2) {
        in(program, 0, 15); in(op, 0, 99); in(op2, -1, 99);
        List<int[]> r = prog.get(program);
        idx(at, 0, r.size());
        if (at + (op2 >= 0 ? 2 : 1) > 24) throw ise();
        told.add(q -> q.rows(program, at, op, a, b, c, op2, a2, b2, c2));
        int[] w = {op, a, b, c};
        if (at < r.size()) r.set(at, w); else r.add(w);
        if (op2 >= 0) {
            int[] v = {op2, a2, b2, c2};
            if (at + 1 < r.size()) r.set(at + 1, v); else r.add(v);
        }
        return r.size();
    }
    public int user(int user, int groups, int share, int blocks, int inodes) {
        in(user, 0, 4); in(groups, 0, 7); in(share, 1, 9); in(blocks, 0, 40); in(inodes, 0, 20);
        told.add(q -> q.user(user, groups, share, blocks, inodes));
        int o = usr[user][1];
        usr[user] = new int[] {groups, share, blocks, inodes};
        return o;
    }
    public int link(int one, int other, int delay, int loss, int twice) {
        in(one, 0, 2); in(other, 0, 2); in(delay, 1, 9); in(loss, 0, 9); in(twice, 0, 9);
        if (one == other) throw uoe();
        told.add(q -> q.link(one, other, delay, loss, twice));
        Link l = links[one + other - 1];
        int o = l.delay;
        l.delay = delay; l.loss = loss; l.twice = twice;
        return o;
    }
    public boolean cut(int one, int other, boolean isCut) {
        in(one, 0, 2); in(other, 0, 2);
        if (one == other) throw uoe();
        told.add(q -> q.cut(one, other, isCut));
        Link l = links[one + other - 1];
        boolean o = l.cut;
        l.cut = isCut;
        return o;
    }
    public int seed(int v) { told.add(q -> q.seed(v)); int o = z; z = v; return o; }
    public int spawn(int machine, int user, int program) {
        in(machine, 0, 2); in(user, 0, 4); in(program, -1, 15);
        M x = isup(m[machine]);
        if (x.freeP() < 0 || x.freeT() < 0) throw ise();
        told.add(q -> q.spawn(machine, user, program));
        return x.make(x.ps[0], user, program).no;
    }
    Th th(M x, int t) { idx(t, 0, 13); if (x.ts[t] == null) throw ioobe(); return x.ts[t]; }
    Proc pr(M x, int p) { idx(p, 0, 9); if (x.ps[p] == null) throw ioobe(); return x.ps[p]; }
    public int tell(int machine, int thread, int op, int a, int b, int c) {
        in(machine, 0, 2); in(op, 0, 99);
        M x = isup(m[machine]);
        Th t = th(x, thread);
        if (t.st != 1 || t.sign != 'h') throw ise();
        told.add(q -> q.tell(machine, thread, op, a, b, c));
        t.told = new int[] {op, a, b, c};
        x.ready(t);
        return T;
    }
    public int does(int machine, int thread, int op, int a, int b, int c) {
        in(machine, 0, 2); in(op, 0, 99);
        M x = isup(m[machine]);
        Th t = th(x, thread);
        if (t.st != 1 || t.sign != 'h' || T > 19900) throw ise();
        told.add(q -> q.does(machine, thread, op, a, b, c));
        t.told = new int[] {op, a, b, c};
        x.ready(t);
        for (int i = 0; i < 60; i++) {
            tick();
            if (x.ts[thread] != t || t.st == 2) return -1001;
            if (t.p.prog != -1) return -1002;
            if (t.st == 1 && t.sign == 'h') return a >= 0 && a < 8 ? t.r[a] : 0;
        }
        return -1000;
    }
    public int step(int n) {
        in(n, 1, 400);
        if (T + n > 20000) throw ise();
        told.add(q -> q.step(n));
        for (int i = 0; i < n; i++) tick();
        return T;
    }
    public int crash(int machine) { M x = isup(mach(machine)); told.add(q -> q.crash(machine)); return x.crash(); }
    public int boot(int machine) {
        M x = mach(machine);
        if (x.up) throw uoe();
        told.add(q -> q.boot(machine));
        return x.boot();
    }
    public int type(int machine, long a, long b, long c, long d, long e) {
        M x = isup(mach(machine));
        told.add(q -> q.type(machine, a, b, c, d, e));
        for (long v : new long[] {a, b, c, d, e}) {
            for (int i = 56; i >= 0; i -= 8) { int k = (int) (v >>> i & 255); if (k != 0) x.key(k); }
        }
        return x.keys.size();
    }
    public int login(int machine, int user) {
        in(machine, 0, 2); in(user, 0, 4);
        M x = isup(m[machine]);
        if (x.term != null) throw uoe();
        if (x.freeP() < 0 || x.freeT() < 0 || x.freeO() == 0) throw ise();
        told.add(q -> q.login(machine, user));
        Proc p = x.make(x.ps[0], user, 28);
        Open o = x.add('t');
        o.flags = 3; o.users = 2;
        p.f[0] = o; p.f[1] = o;
        p.sh = new Sh(x, p);
        x.term = p;
        return p.no;
    }
    public boolean upgrade(int machine, int process, int program) {
        in(machine, 0, 2); in(program, 0, 15);
        M x = m[machine];
        if (!x.up || process < 1) throw ioobe();
        Proc p = pr(x, process);
        if (p.ended) throw ioobe();
        if (p.prog < 0 || p.prog > 15) throw uoe();
        told.add(q -> q.upgrade(machine, process, program));
        p.next = program;
        return x.change(p);
    }
    public int process(int machine, int process, char w) {
        M x = mach(machine);
        what(w, "pugvdsxmwrltfhc");
        isup(x);
        Proc p = pr(x, process);
        switch (w) {
            case 'p': return p.parent.no;
            case 'u': return p.user;
            case 'g': return p.prog;
            case 'v': return p.ver;
            case 'd': return p.dir;
            case 's': return p.ended ? 2 : p.stopped ? 1 : 0;
            case 'x': if (!p.ended) throw nse(); return p.code;
            case 'm': return p.mask;
            case 'w': return p.pend;
            case 'r': return p.prio;
            case 'l': return p.limit;
            case 't': return p.ticks;
            case 'f': { int n = 0; for (Page g : p.g) if (g.s == 'f') n++; return n; }
            case 'h': return x.live(p).size();
            default: { int n = 0; for (int i = 1; i < 10; i++) if (x.ps[i] != null && x.ps[i].parent == p) n++;
                    return n; }
        }
    }
    public int thread(int machine, int thread, char w) {
        M x = mach(machine);
        what(w, "prsv");
        isup(x);
        Th t = th(x, thread);
        switch (w) {
            case 'p': return t.p.no;
            case 'r': return t.row;
            case 's': return t.st;
            default: if (t.st != 2) throw nse(); return t.val;
        }
    }
    public int register(int machine, int thread, int index) {
        M x = isup(mach(machine));
        Th t = th(x, thread);
        idx(index, 0, 7);
        return t.r[index];
    }
    Th waitsFor(M x, Th t) {
        if (t.st != 1) return null;
        if (t.sign == 'l') return x.lk[t.num];
        if (t.sign == 'j') return x.ts[t.num];
        if (t.sign == 'm') return x.live(x.ps[t.num]).get(0);
        return null;
    }
    public int waits(int machine, int thread, char w) {
        M x = mach(machine);
        what(w, "snt");
        isup(x);
        Th t = th(x, thread);
        if (t.st != 1) throw nse();
        if (w == 's') return t.sign;
        if (w == 'n') return t.num;
        Th o = waitsFor(x, t);
        return o == null ? -1 : o.no;
    }
    public int ran(int machine) { return isup(mach(machine)).ran; }
    public int load(int machine, int user) { in(machine, 0, 2); in(user, 0, 4); return isup(m[machine]).loads[user]; }
    Page pg(int machine, int process, int page) {
        M x = isup(mach(machine));
        Proc p = pr(x, process);
        idx(page, 0, 7);
        return p.g[page];
    }
    public char page(int machine, int process, int page) { return pg(machine, process, page).s; }
    public int pageAt(int machine, int process, int page) {
        Page g = pg(machine, process, page);
        if (g.s == 'n') throw nse();
        return g.at;
    }
    public int frame(int machine, int frame, char w) {
        M x = mach(machine);
        what(w, "apbcg");
        isup(x);
        idx(frame, 0, 7);
        Frame f = x.fr[frame];
        switch (w) {
            case 'a': return f.age;
            case 'p': return x.pagesIn(frame);
            case 'b': return f.block;
            case 'c': return f.clean ? 1 : 0;
            default: return f.s == 'c' ? 1 : f.s == 'o' ? 2 : 0;
        }
    }
    public int cell(int machine, int process, int address) {
        M x = isup(mach(machine));
        Proc p = pr(x, process);
        idx(address, 0, 63);
        Page g = p.g[address / 8];
        switch (g.s) {
            case 'f': case 'o': return x.fr[g.at].c[address % 8];
            case 'c': return x.disk[x.fr[g.at].block][address % 8];
            case 's': return x.disk[g.at][address % 8];
            case 'm': { M.Cmd k = x.new Cmd(); int n = g.at % 100 * 8 + address % 8; return n < k.size(g.at / 100) ?
                    k.cell(g.at / 100, n) : 0; }
            default: return 0;
        }
    }
    public int lock(int machine, int lock, char w) {
        M x = mach(machine);
        what(w, "hbw");
        isup(x);
        idx(lock, 0, 5);
        if (w == 'h') return x.lk[lock] == null ? -1 : x.lk[lock].no;
        if (w == 'b') return x.bk[lock] ? 1 : 0;
        int n = 0;
        for (Th t : x.ts) if (t != null && t.st == 1 && t.sign == 'l' && t.num == lock) n++;
        return n;
    }
    public int queue(int machine, int queue, int index) {
        M x = isup(mach(machine));
        idx(queue, 0, 3);
        if (index < 0 || index >= x.qs.get(queue).size()) throw nse();
        return x.qs.get(queue).get(index);
    }
    public int deadlocked(int machine) {
        M x = isup(mach(machine));
        int bits = 0;
        for (Th t : x.ts) {
            if (t == null) continue;
            Th o = waitsFor(x, t);
            for (int i = 0; i < 20 && o != null && o != t; i++) o = waitsFor(x, o);
            if (o == t) bits |= 1 << t.no;
        }
        return bits;
    }
    public int find(int machine, int path) {
        in(machine, 0, 2);
        if (path < 0) throw iae();
        int i = m[machine].new Cmd().walk(path, 0, 0, true, false);
        if (i < 0) throw nse();
        return i;
    }
    public int inode(int machine, int inode, int cell) {
        M x = mach(machine);
        idx(inode, 0, 19); idx(cell, 0, 7);
        return (x.up ? x.mem : x.disk)[10 + inode][cell];
    }
    public int content(int machine, int inode, int index) {
        M x = mach(machine);
        idx(inode, 0, 19);
        M.Cmd k = x.new Cmd();
        if (k.kind(inode) != 1 && k.kind(inode) != 2) throw uoe();
        if (index < 0 || index >= k.size(inode)) throw nse();
        return k.cell(inode, index);
    }
    public int block(int machine, int block, int cell) { M x = mach(machine); idx(block, 0, 81); idx(cell, 0, 7);
            return x.disk[block][cell]; }
    public boolean held(int machine, int block) {
        M x = isup(mach(machine));
        idx(block, 30, 69);
        return x.held.contains(block) && x.ofFile(block);
    }
    public int log(int machine, char w) {
        M x = mach(machine);
        what(w, "onsp");
        isup(x);
        return w == 'o' ? (x.phase == 0 ? x.trans.size() : 0) : w == 'n' ? x.given : w == 's' ? x.safe : x.phase;
    }
    public int spoil(int machine, int block, int cell, int value) {
        M x = mach(machine);
        if (x.up) throw uoe();
        idx(block, 0, 69); idx(cell, 0, 7);
        told.add(q -> q.spoil(machine, block, cell, value));
        int o = x.disk[block][cell];
        x.disk[block][cell] = value;
        x.spoiled = true;
        return o;
    }
    public int faults(int machine) { return mach(machine).faults().size(); }
    public int fault(int machine, int index, boolean isNumber) {
        List<Object[]> l = mach(machine).faults();
        if (index < 0 || index >= l.size()) throw nse();
        return isNumber ? (Integer) l.get(index)[1] : (Character) l.get(index)[0];
    }
    public int mend(int machine) {
        M x = mach(machine);
        if (x.up) throw uoe();
        told.add(q -> q.mend(machine));
        return x.mendAll();
    }
    public boolean isWhole(int machine) { return mach(machine).whole; }
    public int disc(int machine, char w) {
        M x = mach(machine);
        what(w, "aqlb");
        isup(x);
        return w == 'a' ? x.arm : w == 'q' ? x.asked.size() : w == 'l' ? x.cur2 == null ? 0 : x.left : x.cur2 == null
                ? -1 : x.cur2.block;
    }
    static int last200(List<Integer> l, int i) {
        int n = Math.min(200, l.size());
        if (i < 0 || i >= n) throw nse();
        return l.get(l.size() - n + i);
    }
    public int shown(int machine, int index) { return last200(mach(machine).shown, index); }
    public int printed(int machine, int index) { return last200(mach(machine).printed, index); }
    public int keys(int machine, boolean can) { M x = isup(mach(machine)); return can ? x.keys.size() : x.line.size(); }
    public int end(int machine, int end, char w) {
        M x = mach(machine);
        what(w, "simorbx");
        isup(x);
        idx(end, 0, 5);
        End e = x.en[end];
        if (e == null) throw nse();
        switch (w) {
            case 's': return e.s;
            case 'i': return e.id;
            case 'm': return e.other;
            case 'o': return e.out.size() + (e.closing ? 1 : 0);
            case 'r': return e.in.size();
            case 'b': return e.first;
            default: return e.exp;
        }
    }
    public int packets(int machine) { M x = mach(machine); int n = 0; for (Pk p : air) if (p.to == x.no) n++; return
            n; }
    public int named(int name) {
        in(name, 1, 26);
        if (!m[0].up || m[0].names[name] < 0) throw nse();
        return m[0].names[name];
    }
    public int leases(int machine, int inode) {
        M x = isup(mach(machine));
        idx(inode, 0, 19);
        int b = 0;
        for (int k = 0; k < 3; k++) if (x.lease[inode][k] > 0) b |= 1 << k;
        return b;
    }
    public int copies(int machine) { int n = 0; for (Copy c : isup(mach(machine)).copies) if (c.end > T) n++; return
            n; }
    Sh shell(int machine, int process) {
        if (!m[machine].up) throw ioobe();
        Proc p = pr(m[machine], process);
        if (p.prog != 28 || p.ended) throw uoe();
        return p.sh;
    }
    public int status(int machine, int process) { mach(machine); return shell(machine, process).status; }
    public char variable(int machine, int process, char letter, int index) {
        mach(machine);
        if (letter < 'a' || letter > 'z') throw iae();
        String s = shell(machine, process).vars[letter - 'a'];
        if (index < 0 || index >= s.length()) throw nse();
        return s.charAt(index);
    }
    public int job(int machine, int process, int job) {
        mach(machine);
        in(job, 0, 4);
        int b = 0;
        for (Proc p : shell(machine, process).jobs.get(job).ps) b |= 1 << p.no;
        return b;
    }
    public long account(int machine, int user, char w) { in(machine, 0, 2); in(user, 0, 4); what(w, "tfrwn"); return
            m[machine].get(user, w); }
    public int events() { return Math.min(100, trace.size()); }
    public int event(int index, char w) {
        if (index < 0 || index >= events()) throw nse();
        what(w, "tmsn");
        return trace.get(trace.size() - events() + index)["tmsn".indexOf(w)];
    }
    public boolean isUp(int machine) { return mach(machine).up; }
    public int time() { return T; }
    public float busyShare(int machine) {
        M x = mach(machine);
        if (T == 0) throw new ArithmeticException();
        return (float) x.busy / (float) T;
    }
    public double meanAge(int machine) {
        M x = isup(mach(machine));
        int n = 0, s = 0;
        for (Frame f : x.fr) if (f.s != 'u') { n++; s += f.age; }
        if (n == 0) throw new ArithmeticException();
        return (double) s / n;
    }
    public boolean isReplayed() {
        if (told.size() > 200 || T > 300) throw ise();
        Second r = new Second();
        for (Tell q : new ArrayList<>(told)) q.on(r);
        return r.checksum() == checksum();
    }
    public long checksum() {
        long s = 7;
        s = s * 31 + T;
        for (M x : m) {
            s = s * 31 + (x.up ? 1 : 0);
            for (int[] b : x.disk) for (int v : b) s = s * 31 + v;
            s = s * 31 + x.busy;
            s = s * 31 + (x.shown.isEmpty() ? 0 : x.shown.get(x.shown.size() - 1));
            if (!x.up) continue;
            for (Th t : x.ts) {
                if (t == null) { s = s * 31 - 1; continue; }
                s = s * 31 + t.row;
                for (int v : t.r) s = s * 31 + v;
            }
            for (Proc p : x.ps) s = s * 31 + (p == null ? -1 : 100 * p.ver + p.prog);
        }
        return s;
    }
    public boolean isSound() { for (M x : m) if (x.up && !x.sound()) return false; return true; }
}
