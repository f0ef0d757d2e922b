import java.util.Arrays;
import java.util.NoSuchElementException;

/** A small operating system on three machines with one clock; the document tells all that it does. */
public final class KernelWorks {
    private static final int MACHINES = 3;
    private static final int PROCS = 10;
    private static final int TASKS = 14;
    private static final int USERS = 5;
    private static final int SHELL = 28;
    private static final int DRIVEN = -1;
    private static final int TELLABLE = 200;
    private static final int TOLD_WIDTH = 11;
    private static final int LAST_TICK = 20000;
    // For how many ticks does() waits at most.
    private static final int MOST_TICKS = 60;

    // Kinds of calls that were told; the others are numbered where they are told.
    private static final int DID = 8;
    private static final int STEPPED = 9;
    private static final int TYPED = 12;

    // What a slot of a process or of a thread is.
    private static final int FREE = 0;
    private static final int READY = 1;
    private static final int WAITS = 2;
    private static final int ENDED = 3;

    // What came of a row.
    private static final int DONE = 0;
    private static final int STAY = 1;
    private static final int MOVED = 2;
    private static final int ILL = 3;
    private static final int FAULT = 4;
    private static final int END_PROCESS = 5;
    private static final int END_THREAD = 6;
    private static final int NO_READER = 7;
    private static final int SIGNAL = 8;
    private static final int LOOSE = 9;
    private static final int NEW_PROGRAM = 10;
    // What comes next in a step of a shell.
    private static final int LINE_READ = 11;
    private static final int OPENS = 12;
    private static final int STARTS = 13;
    private static final int STARTS_BEHIND = 14;
    private static final int NO_BUILTIN = 15;

    // Errors, as the document numbers them.
    private static final int NOT_ALLOWED = -1;
    private static final int NO_ENTRY = -2;
    private static final int NO_PROCESS = -3;
    private static final int NO_FILE = -9;
    private static final int EXISTS = -17;
    private static final int NO_DIRECTORY = -20;
    private static final int IS_DIRECTORY = -21;
    private static final int INVALID = -22;
    private static final int NONE_FREE = -23;
    private static final int NO_FILE_NUMBER = -24;
    private static final int TOO_BIG = -27;
    private static final int DISC_FULL = -28;
    private static final int NOT_EMPTY = -39;
    private static final int LINK_LOOP = -40;
    private static final int OVER_QUOTA = -69;
    private static final int BROKEN = -104;
    private static final int NO_ANSWER = -110;
    private static final int REFUSED = -111;

    private static final int ANY = Integer.MIN_VALUE;

    private final World world;
    private final long[] told;
    private int toldCount;
    private World again;

    public KernelWorks() {
        world = World.make();
        told = new long[(TELLABLE + 1) * TOLD_WIDTH];
        toldCount = 0;
        again = null;
    }

    // ---- what is told ----

    public int rows(int program, int at, int op, int a, int b, int c, int op2, int a2, int b2, int c2)
            throws IllegalArgumentException, IndexOutOfBoundsException, IllegalStateException {
        if (program < 0 || program > 15 || op < 0 || op > 99 || op2 < -1 || op2 > 99) {
            throw new IllegalArgumentException("a number is out of range");
        }
        if (at < 0 || at > world.rowCount[program]) {
            throw new IndexOutOfBoundsException("there is no such place for a row");
        }
        if (at + (op2 < 0 ? 1 : 2) > World.MOST_ROWS) {
            throw new IllegalStateException("the program would have too many rows");
        }
        int slot = nextTold(1, program, at);
        long[] row = told;
        row[slot + 3] = op;
        row[slot + 4] = a;
        row[slot + 5] = b;
        row[slot + 6] = c;
        row[slot + 7] = op2;
        row[slot + 8] = a2;
        row[slot + 9] = b2;
        row[slot + 10] = c2;
        return tellRows(world, slot);
    }

    public int user(int user, int groups, int share, int blocks, int inodes) throws IllegalArgumentException {
        if (isNoUser(user) || groups < 0 || groups > 7 || share < 1 || share > 9
                || blocks < 0 || blocks > 40 || inodes < 0 || inodes > 20) {
            throw new IllegalArgumentException("a number is out of range");
        }
        int slot = nextTold(2, user, groups);
        told[slot + 3] = share;
        told[slot + 4] = blocks;
        told[slot + 5] = inodes;
        return world.setUser(user, groups, share, blocks, inodes);
    }

    public int link(int one, int other, int delay, int loss, int twice)
            throws IllegalArgumentException, UnsupportedOperationException {
        if (isNoMachine(one) || isNoMachine(other) || delay < 1 || delay > 9
                || loss < 0 || loss > 9 || twice < 0 || twice > 9) {
            throw new IllegalArgumentException("a number is out of range");
        }
        if (one == other) {
            throw new UnsupportedOperationException("a link is between two machines");
        }
        int slot = nextTold(3, one, other);
        told[slot + 3] = delay;
        told[slot + 4] = loss;
        told[slot + 5] = twice;
        return world.setLink(one, other, delay, loss, twice);
    }

    public boolean cut(int one, int other, boolean isCut)
            throws IllegalArgumentException, UnsupportedOperationException {
        if (isNoMachine(one) || isNoMachine(other)) {
            throw new IllegalArgumentException("a number is out of range");
        }
        if (one == other) {
            throw new UnsupportedOperationException("a link is between two machines");
        }
        told[nextTold(4, one, other) + 3] = isCut ? 1 : 0;
        return world.setCut(one, other, isCut);
    }

    public int seed(int z) {
        nextTold(5, z, 0);
        return world.setSeed(z);
    }

    public int spawn(int machine, int user, int program)
            throws IllegalArgumentException, UnsupportedOperationException, IllegalStateException {
        if (isNoMachine(machine) || isNoUser(user) || program < -1 || program > 15) {
            throw new IllegalArgumentException("a number is out of range");
        }
        if (!world.machines[machine].up) {
            throw new UnsupportedOperationException("the machine is down");
        }
        if (!world.machines[machine].hasRoom(1)) {
            throw new IllegalStateException("no number of a process or a thread is free");
        }
        told[nextTold(6, machine, user) + 3] = program;
        return world.machines[machine].makeProcess(0, user, program);
    }

    public int tell(int machine, int thread, int op, int a, int b, int c) throws IllegalArgumentException,
            UnsupportedOperationException, IndexOutOfBoundsException, IllegalStateException {
        if (isNoMachine(machine) || op < 0 || op > 99) {
            throw new IllegalArgumentException("a number is out of range");
        }
        requireUp(machine);
        requireThread(machine, thread);
        if (!world.machines[machine].isToBeTold(thread)) {
            throw new IllegalStateException("the thread does not wait to be told");
        }
        int slot = nextTold(7, machine, thread);
        noteRow(slot, op, a, b, c);
        world.tellTask(machine, thread, op, a, b, c);
        return world.clock;
    }

    public int does(int machine, int thread, int op, int a, int b, int c) throws IllegalArgumentException,
            UnsupportedOperationException, IndexOutOfBoundsException, IllegalStateException {
        if (isNoMachine(machine) || op < 0 || op > 99) {
            throw new IllegalArgumentException("a number is out of range");
        }
        requireUp(machine);
        requireThread(machine, thread);
        if (!world.machines[machine].isToBeTold(thread) || world.clock > LAST_TICK - 100) {
            throw new IllegalStateException("the thread does not wait to be told, or it is too late");
        }
        int slot = nextTold(DID, machine, thread);
        noteRow(slot, op, a, b, c);
        world.tellTask(machine, thread, op, a, b, c);
        int id = world.machines[machine].tasks[thread].id;
        boolean isOver = false;
        for (int i = 0; i < MOST_TICKS && !isOver; i++) {
            world.tick();
            isOver = world.machines[machine].hasDone(thread, id);
        }
        return isOver ? world.machines[machine].answerOf(thread, id, a) : -1000;
    }

    public int step(int ticks) throws IllegalArgumentException, IllegalStateException {
        if (ticks < 1 || ticks > 400) {
            throw new IllegalArgumentException("a number is out of range");
        }
        if (world.clock + ticks > LAST_TICK) {
            throw new IllegalStateException("the clock would be too late");
        }
        nextTold(STEPPED, ticks, 0);
        for (int i = 0; i < ticks; i++) {
            world.tick();
        }
        return world.clock;
    }

    public int crash(int machine) throws IllegalArgumentException, UnsupportedOperationException {
        requireMachine(machine);
        requireUp(machine);
        nextTold(10, machine, 0);
        return world.machines[machine].fallDown();
    }

    public int boot(int machine) throws IllegalArgumentException, UnsupportedOperationException {
        requireMachine(machine);
        requireDown(machine);
        nextTold(11, machine, 0);
        return world.machines[machine].startAnew();
    }

    public int type(int machine, long a, long b, long c, long d, long e)
            throws IllegalArgumentException, UnsupportedOperationException {
        requireMachine(machine);
        requireUp(machine);
        int slot = nextTold(TYPED, machine, 0);
        told[slot + 2] = a;
        told[slot + 3] = b;
        told[slot + 4] = c;
        told[slot + 5] = d;
        told[slot + 6] = e;
        return typeAll(world, slot);
    }

    public int login(int machine, int user)
            throws IllegalArgumentException, UnsupportedOperationException, IllegalStateException {
        if (isNoMachine(machine) || isNoUser(user)) {
            throw new IllegalArgumentException("a number is out of range");
        }
        Machine x = world.machines[machine];
        if (!x.up || x.loginShell >= 0) {
            throw new UnsupportedOperationException("the machine is down, or the terminal has a shell");
        }
        if (!x.hasRoom(1) || x.files.freeCount() < 1) {
            throw new IllegalStateException("no number or open file is free");
        }
        nextTold(13, machine, user);
        return x.makeLoginShell(user);
    }

    public boolean upgrade(int machine, int process, int program)
            throws IllegalArgumentException, IndexOutOfBoundsException, UnsupportedOperationException {
        if (isNoMachine(machine) || program < 0 || program > 15) {
            throw new IllegalArgumentException("a number is out of range");
        }
        Proc p = process == 0 ? null : procOf(machine, process);
        if (p == null || p.state == ENDED) {
            throw new IndexOutOfBoundsException("there is no such process");
        }
        if (p.program < 0 || p.program > 15) {
            throw new UnsupportedOperationException("the program of this process is not changed");
        }
        told[nextTold(14, machine, process) + 3] = program;
        return world.machines[machine].askChange(process, program);
    }

    // ---- processes, threads ----

    public int process(int machine, int process, char what) throws IllegalArgumentException,
            UnsupportedOperationException, IndexOutOfBoundsException, NoSuchElementException {
        if (isNoMachine(machine) || !isOneOf(what, "pugvdsxmwrltfhc")) {
            throw new IllegalArgumentException("there is no such machine or what");
        }
        requireUp(machine);
        Proc p = requireProcess(machine, process);
        if (what == 'x' && p.state != ENDED) {
            throw new NoSuchElementException("it did not end");
        }
        return world.machines[machine].tellOfProcess(process, what);
    }

    public int thread(int machine, int thread, char what) throws IllegalArgumentException,
            UnsupportedOperationException, IndexOutOfBoundsException, NoSuchElementException {
        if (isNoMachine(machine) || !isOneOf(what, "prsv")) {
            throw new IllegalArgumentException("there is no such machine or what");
        }
        requireUp(machine);
        Task k = requireThread(machine, thread);
        if (what == 'v' && k.state != ENDED) {
            throw new NoSuchElementException("it did not end");
        }
        switch (what) {
            case 'p': return k.proc;
            case 'r': return k.row;
            case 's': return k.state - READY;
            default: return k.value;
        }
    }

    public int register(int machine, int thread, int index)
            throws IllegalArgumentException, UnsupportedOperationException, IndexOutOfBoundsException {
        requireMachine(machine);
        requireUp(machine);
        Task k = requireThread(machine, thread);
        if (index < 0 || index > 7) {
            throw new IndexOutOfBoundsException("there is no such register");
        }
        return k.regs[index];
    }

    public int waits(int machine, int thread, char what) throws IllegalArgumentException,
            UnsupportedOperationException, IndexOutOfBoundsException, NoSuchElementException {
        if (isNoMachine(machine) || !isOneOf(what, "snt")) {
            throw new IllegalArgumentException("there is no such machine or what");
        }
        requireUp(machine);
        Task k = requireThread(machine, thread);
        if (k.state != WAITS) {
            throw new NoSuchElementException("it does not wait");
        }
        if (what == 't') {
            return world.machines[machine].waitedFor(thread);
        }
        return what == 's' ? k.sign : k.number;
    }

    public int ran(int machine) throws IllegalArgumentException, UnsupportedOperationException {
        requireMachine(machine);
        requireUp(machine);
        return world.machines[machine].lastRan;
    }

    public int load(int machine, int user) throws IllegalArgumentException, UnsupportedOperationException {
        if (isNoMachine(machine) || isNoUser(user)) {
            throw new IllegalArgumentException("a number is out of range");
        }
        requireUp(machine);
        return world.machines[machine].loads[user];
    }

    // ---- memory ----

    public char page(int machine, int process, int page)
            throws IllegalArgumentException, UnsupportedOperationException, IndexOutOfBoundsException {
        requirePage(machine, process, page, 7);
        return (char) world.machines[machine].memory.sign[process][page];
    }

    public int pageAt(int machine, int process, int page) throws IllegalArgumentException,
            UnsupportedOperationException, IndexOutOfBoundsException, NoSuchElementException {
        requirePage(machine, process, page, 7);
        Memory x = world.machines[machine].memory;
        if (x.sign[process][page] == 'n') {
            throw new NoSuchElementException("the page is not there");
        }
        return x.at[process][page];
    }

    public int frame(int machine, int frame, char what)
            throws IllegalArgumentException, UnsupportedOperationException, IndexOutOfBoundsException {
        if (isNoMachine(machine) || !isOneOf(what, "apbcg")) {
            throw new IllegalArgumentException("there is no such machine or what");
        }
        requireUp(machine);
        if (frame < 0 || frame > 7) {
            throw new IndexOutOfBoundsException("there is no such frame");
        }
        return world.machines[machine].memory.tellOfFrame(frame, what);
    }

    public int cell(int machine, int process, int address)
            throws IllegalArgumentException, UnsupportedOperationException, IndexOutOfBoundsException {
        requirePage(machine, process, address, 63);
        return world.machines[machine].memory.look(process, address);
    }

    // ---- locks, queues ----

    public int lock(int machine, int lock, char what)
            throws IllegalArgumentException, UnsupportedOperationException, IndexOutOfBoundsException {
        if (isNoMachine(machine) || !isOneOf(what, "hbw")) {
            throw new IllegalArgumentException("there is no such machine or what");
        }
        requireUp(machine);
        if (lock < 0 || lock > 5) {
            throw new IndexOutOfBoundsException("there is no such lock");
        }
        Machine x = world.machines[machine];
        if (what == 'w') {
            return x.countWaiting('l', lock);
        }
        return what == 'h' ? x.rows.holder[lock] : x.rows.broken[lock];
    }

    public int queue(int machine, int queue, int index) throws IllegalArgumentException,
            UnsupportedOperationException, IndexOutOfBoundsException, NoSuchElementException {
        requireMachine(machine);
        requireUp(machine);
        if (queue < 0 || queue > 3) {
            throw new IndexOutOfBoundsException("there is no such queue");
        }
        Rows x = world.machines[machine].rows;
        if (index < 0 || index >= x.queued[queue] || index >= Rows.QUEUE_SIZE) {
            throw new NoSuchElementException("there is none at the index");
        }
        return x.queues[queue][index];
    }

    public int deadlocked(int machine) throws IllegalArgumentException, UnsupportedOperationException {
        requireMachine(machine);
        requireUp(machine);
        return world.machines[machine].ringBits();
    }

    // ---- files ----

    public int find(int machine, int path) throws IllegalArgumentException, NoSuchElementException {
        if (isNoMachine(machine) || path < 0) {
            throw new IllegalArgumentException("a number is out of range");
        }
        int i = world.machines[machine].store.lead(path, 0, 0, Store.FOLLOW);
        if (i < 0) {
            throw new NoSuchElementException("the path leads nowhere");
        }
        return i;
    }

    public int inode(int machine, int inode, int cell) throws IllegalArgumentException, IndexOutOfBoundsException {
        requireMachine(machine);
        if (inode < 0 || inode > 19 || cell < 0 || cell > 7) {
            throw new IndexOutOfBoundsException("there is no such inode or cell");
        }
        return world.machines[machine].store.mem[10 + inode][cell];
    }

    public int content(int machine, int inode, int index) throws IllegalArgumentException,
            IndexOutOfBoundsException, UnsupportedOperationException, NoSuchElementException {
        requireMachine(machine);
        if (inode < 0 || inode > 19) {
            throw new IndexOutOfBoundsException("there is no such inode");
        }
        Store x = world.machines[machine].store;
        int kind = x.kindOf(inode);
        if (kind != 1 && kind != 2) {
            throw new UnsupportedOperationException("it is no file and no directory");
        }
        if (index < 0 || index >= x.sizeOf(inode)) {
            throw new NoSuchElementException("there is no such cell");
        }
        return x.cellOf(inode, index);
    }

    public int block(int machine, int block, int cell) throws IllegalArgumentException, IndexOutOfBoundsException {
        requireMachine(machine);
        if (block < 0 || block > 81 || cell < 0 || cell > 7) {
            throw new IndexOutOfBoundsException("there is no such block or cell");
        }
        return world.machines[machine].drive.cells[block][cell];
    }

    public boolean held(int machine, int block)
            throws IllegalArgumentException, UnsupportedOperationException, IndexOutOfBoundsException {
        requireMachine(machine);
        requireUp(machine);
        if (block < 30 || block > 69) {
            throw new IndexOutOfBoundsException("there is no such block");
        }
        return world.machines[machine].store.holds[block] && world.machines[machine].store.fileOf(block) >= 0;
    }

    public int log(int machine, char what) throws IllegalArgumentException, UnsupportedOperationException {
        if (isNoMachine(machine) || !isOneOf(what, "onsp")) {
            throw new IllegalArgumentException("there is no such machine or what");
        }
        requireUp(machine);
        Drive x = world.machines[machine].drive;
        switch (what) {
            case 'o': return x.phase == 0 ? x.memberCount : 0;
            case 'n': return x.given;
            case 's': return x.safe;
            default: return x.phase;
        }
    }

    public int spoil(int machine, int block, int cell, int value)
            throws IllegalArgumentException, UnsupportedOperationException, IndexOutOfBoundsException {
        requireMachine(machine);
        requireDown(machine);
        if (block < 0 || block > 69 || cell < 0 || cell > 7) {
            throw new IndexOutOfBoundsException("there is no such block or cell");
        }
        int slot = nextTold(15, machine, block);
        told[slot + 3] = cell;
        told[slot + 4] = value;
        return world.machines[machine].spoilCell(block, cell, value);
    }

    public int faults(int machine) throws IllegalArgumentException {
        requireMachine(machine);
        return world.machines[machine].store.scan();
    }

    public int fault(int machine, int index, boolean isNumber)
            throws IllegalArgumentException, NoSuchElementException {
        requireMachine(machine);
        int count = world.machines[machine].store.scan();
        if (index < 0 || index >= count) {
            throw new NoSuchElementException("there is no such fault");
        }
        return world.found[index * World.FOUND_WIDTH + (isNumber ? 1 : 0)];
    }

    public int mend(int machine) throws IllegalArgumentException, UnsupportedOperationException {
        requireMachine(machine);
        requireDown(machine);
        nextTold(16, machine, 0);
        return world.machines[machine].store.mendAll();
    }

    public boolean isWhole(int machine) throws IllegalArgumentException {
        requireMachine(machine);
        return world.machines[machine].drive.whole;
    }

    // ---- devices ----

    public int disc(int machine, char what) throws IllegalArgumentException, UnsupportedOperationException {
        if (isNoMachine(machine) || !isOneOf(what, "aqlb")) {
            throw new IllegalArgumentException("there is no such machine or what");
        }
        requireUp(machine);
        return world.machines[machine].drive.tellOf(what);
    }

    public int shown(int machine, int index) throws IllegalArgumentException, NoSuchElementException {
        requireMachine(machine);
        Files x = world.machines[machine].files;
        if (index < 0 || index >= Math.min(x.shownCount, Files.TOLD_CELLS)) {
            throw new NoSuchElementException("there is none");
        }
        return Files.oldest(x.shownCells, x.shownCount, index);
    }

    public int printed(int machine, int index) throws IllegalArgumentException, NoSuchElementException {
        requireMachine(machine);
        Files x = world.machines[machine].files;
        if (index < 0 || index >= Math.min(x.printedCount, Files.TOLD_CELLS)) {
            throw new NoSuchElementException("there is none");
        }
        return Files.oldest(x.printedCells, x.printedCount, index);
    }

    public int keys(int machine, boolean canBeRead) throws IllegalArgumentException, UnsupportedOperationException {
        requireMachine(machine);
        requireUp(machine);
        Files x = world.machines[machine].files;
        return canBeRead ? x.keyCount : x.lineCount;
    }

    // ---- the network ----

    public int end(int machine, int end, char what) throws IllegalArgumentException,
            UnsupportedOperationException, IndexOutOfBoundsException, NoSuchElementException {
        if (isNoMachine(machine) || !isOneOf(what, "simorbx")) {
            throw new IllegalArgumentException("there is no such machine or what");
        }
        requireUp(machine);
        if (end < 0 || end >= Net.ENDS) {
            throw new IndexOutOfBoundsException("there is no such number of an end");
        }
        End e = world.machines[machine].net.ends[end];
        if (e.state == 0) {
            throw new NoSuchElementException("there is no end");
        }
        return e.tellOf(what);
    }

    public int packets(int machine) throws IllegalArgumentException {
        requireMachine(machine);
        return world.countPackets(machine);
    }

    public int named(int name) throws IllegalArgumentException, NoSuchElementException {
        if (name < 1 || name > 26) {
            throw new IllegalArgumentException("a number is out of range");
        }
        int value = world.machines[0].net.names[name];
        if (!world.machines[0].up || value < 0) {
            throw new NoSuchElementException("nobody gave it");
        }
        return value;
    }

    public int leases(int machine, int inode)
            throws IllegalArgumentException, UnsupportedOperationException, IndexOutOfBoundsException {
        requireMachine(machine);
        requireUp(machine);
        if (inode < 0 || inode > 19) {
            throw new IndexOutOfBoundsException("there is no such inode");
        }
        return world.machines[machine].net.leaseBits(inode);
    }

    public int copies(int machine) throws IllegalArgumentException, UnsupportedOperationException {
        requireMachine(machine);
        requireUp(machine);
        return world.machines[machine].net.countCopies();
    }

    // ---- the shell, accounts, events ----

    public int status(int machine, int process)
            throws IllegalArgumentException, IndexOutOfBoundsException, UnsupportedOperationException {
        requireMachine(machine);
        return requireShell(machine, process).status;
    }

    public char variable(int machine, int process, char letter, int index) throws IllegalArgumentException,
            IndexOutOfBoundsException, UnsupportedOperationException, NoSuchElementException {
        if (isNoMachine(machine) || letter < 'a' || letter > 'z') {
            throw new IllegalArgumentException("there is no such machine or letter");
        }
        Shell x = requireShell(machine, process);
        if (index < 0 || index >= x.varLength[letter - 'a'] || index >= Shell.WORD_SIZE) {
            throw new NoSuchElementException("there is no such character");
        }
        return (char) x.vars[letter - 'a'][index];
    }

    public int job(int machine, int process, int job)
            throws IllegalArgumentException, IndexOutOfBoundsException, UnsupportedOperationException {
        if (isNoMachine(machine) || job < 0 || job > 4) {
            throw new IllegalArgumentException("there is no such machine or job");
        }
        return requireShell(machine, process).jobs[job][0];
    }

    public long account(int machine, int user, char what) throws IllegalArgumentException {
        if (isNoMachine(machine) || isNoUser(user) || !isOneOf(what, "tfrwn")) {
            throw new IllegalArgumentException("a number is out of range");
        }
        int column = 0;
        switch (what) {
            case 't': column = Machine.TICKS; break;
            case 'f': column = Machine.FRAMES; break;
            case 'r': column = Machine.READS; break;
            case 'w': column = Machine.WRITES; break;
            default: column = Machine.SENT; break;
        }
        return world.machines[machine].accounts[user * Machine.COUNTS + column];
    }

    public int events() {
        return Math.min(world.traceCount, World.TRACE);
    }

    public int event(int index, char what) throws NoSuchElementException, IllegalArgumentException {
        int count = Math.min(world.traceCount, World.TRACE);
        if (index < 0 || index >= count) {
            throw new NoSuchElementException("there is no such event");
        }
        if (!isOneOf(what, "tmsn")) {
            throw new IllegalArgumentException("there is no such what");
        }
        int[] row = world.trace[(world.traceCount - count + index) % World.TRACE];
        switch (what) {
            case 't': return row[0];
            case 'm': return row[1];
            case 's': return row[2];
            default: return row[3];
        }
    }

    public boolean isUp(int machine) throws IllegalArgumentException {
        requireMachine(machine);
        return world.machines[machine].up;
    }

    public int time() {
        return world.clock;
    }

    // ---- all together ----

    public float busyShare(int machine) throws IllegalArgumentException, ArithmeticException {
        requireMachine(machine);
        if (world.clock == 0) {
            throw new ArithmeticException("the clock is 0");
        }
        return (float) world.machines[machine].busy / (float) world.clock;
    }

    public double meanAge(int machine)
            throws IllegalArgumentException, UnsupportedOperationException, ArithmeticException {
        requireMachine(machine);
        requireUp(machine);
        Memory x = world.machines[machine].memory;
        int count = 0;
        int sum = 0;
        for (int f = 0; f < Memory.FRAMES; f++) {
            if (x.phase[f] != Memory.UNUSED) {
                count++;
                sum += x.age[f];
            }
        }
        if (count == 0) {
            throw new ArithmeticException("all frames are free");
        }
        return (double) sum / (double) count;
    }

    public boolean isReplayed() throws IllegalStateException {
        if (toldCount > TELLABLE || world.clock > 300) {
            throw new IllegalStateException("too much was told");
        }
        // One second world serves all replays, so that a run makes it just once.
        if (again == null) {
            again = World.make();
        }
        again.makeNew();
        for (int i = 0; i < toldCount; i++) {
            int slot = i * TOLD_WIDTH;
            int kind = (int) told[slot];
            if (kind == TYPED) {
                typeAll(again, slot);
            } else {
                tellAgain(again, slot);
            }
            int ticks = kind == DID ? MOST_TICKS : kind == STEPPED ? (int) told[slot + 1] : 0;
            int id = kind == DID ? againTask(slot).id : 0;
            boolean isOver = false;
            for (int n = 0; n < ticks && !isOver; n++) {
                again.tick();
                isOver = kind == DID && again.machines[(int) told[slot + 1]].hasDone((int) told[slot + 2], id);
            }
        }
        return again.sum() == world.sum();
    }

    public long checksum() {
        return world.sum();
    }

    public boolean isSound() {
        for (int m = 0; m < MACHINES; m++) {
            if (world.machines[m].up && !world.machines[m].isInOrder()) {
                return false;
            }
        }
        return true;
    }

    // ---- checks of arguments ----

    private static boolean isNoMachine(int machine) {
        return machine < 0 || machine >= MACHINES;
    }

    private static boolean isNoUser(int user) {
        return user < 0 || user >= USERS;
    }

    private static boolean isOneOf(char what, String signs) {
        return signs.indexOf(what) >= 0;
    }

    private static void requireMachine(int machine) {
        if (isNoMachine(machine)) {
            throw new IllegalArgumentException("there is no such machine");
        }
    }

    private void requireUp(int machine) {
        if (!world.machines[machine].up) {
            throw new UnsupportedOperationException("the machine is down");
        }
    }

    private void requireDown(int machine) {
        if (world.machines[machine].up) {
            throw new UnsupportedOperationException("the machine is up");
        }
    }

    private Task requireThread(int machine, int thread) {
        if (thread < 0 || thread >= TASKS || world.machines[machine].tasks[thread].state == FREE) {
            throw new IndexOutOfBoundsException("there is no such thread");
        }
        return world.machines[machine].tasks[thread];
    }

    private Proc procOf(int machine, int process) {
        Machine x = world.machines[machine];
        if (!x.up || process < 0 || process >= PROCS || x.procs[process].state == FREE) {
            return null;
        }
        return x.procs[process];
    }

    private Proc requireProcess(int machine, int process) {
        Proc p = procOf(machine, process);
        if (p == null) {
            throw new IndexOutOfBoundsException("there is no such process");
        }
        return p;
    }

    private void requirePage(int machine, int process, int index, int most) {
        requireMachine(machine);
        requireUp(machine);
        requireProcess(machine, process);
        if (index < 0 || index > most) {
            throw new IndexOutOfBoundsException("there is no such page or address");
        }
    }

    private Shell requireShell(int machine, int process) {
        Proc p = requireProcess(machine, process);
        if (p.program != SHELL || p.state == ENDED || p.shell == null) {
            throw new UnsupportedOperationException("it is no shell, or has ended");
        }
        return p.shell;
    }

    // ---- what was told is kept, for a replay ----

    /** Where the next call is kept; behind the last one that a replay can tell, all go to one spare place. */
    private int nextTold(int kind, int first, int second) {
        int slot = Math.min(toldCount, TELLABLE) * TOLD_WIDTH;
        if (toldCount <= TELLABLE) {
            toldCount++;
        }
        told[slot] = kind;
        told[slot + 1] = first;
        told[slot + 2] = second;
        return slot;
    }

    private void noteRow(int slot, int op, int a, int b, int c) {
        told[slot + 3] = op;
        told[slot + 4] = a;
        told[slot + 5] = b;
        told[slot + 6] = c;
    }

    private int tellRows(World w, int slot) {
        int program = (int) told[slot + 1];
        int at = (int) told[slot + 2];
        w.setRow(program, at, (int) told[slot + 3], (int) told[slot + 4], (int) told[slot + 5],
                (int) told[slot + 6]);
        if (told[slot + 7] >= 0) {
            w.setRow(program, at + 1, (int) told[slot + 7], (int) told[slot + 8], (int) told[slot + 9],
                    (int) told[slot + 10]);
        }
        return w.rowCount[program];
    }

    private int typeAll(World w, int slot) {
        Machine x = w.machines[(int) told[slot + 1]];
        for (int i = 0; i < 40; i++) {
            int key = (int) (told[slot + 2 + i / 8] >>> (56 - 8 * (i % 8))) & 255;
            int signal = key == 0 ? 0 : x.files.typeKey(key);
            if (signal > 0) {
                x.signalFront(signal);
            }
        }
        return x.files.keyCount;
    }

    private Task againTask(int slot) {
        return again.machines[(int) told[slot + 1]].tasks[(int) told[slot + 2]];
    }

    /** Tells once more what was told, but for keys; ticks go by behind that. */
    private void tellAgain(World w, int slot) {
        int kind = (int) told[slot];
        int one = (int) told[slot + 1];
        int two = (int) told[slot + 2];
        int three = (int) told[slot + 3];
        int four = (int) told[slot + 4];
        int five = (int) told[slot + 5];
        switch (kind) {
            case 1: tellRows(w, slot); break;
            case 2: w.setUser(one, two, three, four, five); break;
            case 3: w.setLink(one, two, three, four, five); break;
            case 4: w.setCut(one, two, three != 0); break;
            case 5: w.setSeed(one); break;
            case 6: w.machines[one].makeProcess(0, two, three); break;
            case 7:
            case DID: w.tellTask(one, two, three, four, five, (int) told[slot + 6]); break;
            case STEPPED: break;
            case 10: w.machines[one].fallDown(); break;
            case 11: w.machines[one].startAnew(); break;
            case 13: w.machines[one].makeLoginShell(two); break;
            case 14: w.machines[one].askChange(two, three); break;
            case 15: w.machines[one].spoilCell(two, three, four); break;
            default: w.machines[one].store.mendAll(); break;
        }
    }

    /** All that the three machines share: the clock, programs, users, links with their packets, and the trace. */
    private static final class World {
        static final int MOST_ROWS = 24;
        static final int TRACE = 100;
        static final int FOUND = 1900;
        static final int FOUND_WIDTH = 5;
        static final int PACKETS = 1500;
        static final int WIDTH = 8;
        static final int PARCELS = 64;
        static final int PARCEL_WIDTH = 82;

        // The columns of a link.
        static final int DELAY = 0;
        static final int LOSS = 1;
        static final int TWICE = 2;
        static final int CUT = 3;

        // The columns of a packet; what the other four mean is told where it is sent.
        static final int AT = 0;
        static final int TO = 1;
        static final int FROM = 2;
        static final int KIND = 3;

        private static final int[] ECHO = {12, 7, 0, 0, 1, 6, 1, 0, 6, 5, 1007, 1006, 9, 1005, 17, 0, 2, 4, 1006, 6,
            12, 4, 1004, 0, 12, 3, 1004, 0, 7, 5, 1003, 0, 9, 1005, 12, 0, 53, 5, 1, 1003, 2, 4, 1004, 1, 8, 6, 0, 0,
            2, 6, 1006, 1, 6, 5, 1007, 1006, 9, 1005, 17, 0, 53, 5, 1, 32, 8, 4, 0, 0, 53, 5, 1, 10, 22, 0, 0, 0};
        private static final int[] CAT = {12, 7, 0, 0, 9, 1007, 9, 0, 52, 0, 0, 1, 6, 5, 1001, 1, 9, 1005, 7, 0,
            53, 5, 1, 1000, 8, 2, 0, 0, 22, 0, 0, 0, 22, 1, 0, 0, 1, 6, 1, 0, 12, 4, 1006, 0, 50, 3, 1004, 1,
            6, 5, 1003, 0, 9, 1005, 8, 0, 52, 0, 1003, 1, 6, 5, 1001, 1, 9, 1005, 19, 0, 53, 5, 1, 1000, 8, 14, 0, 0,
            51, 5, 1003, 0, 2, 6, 1006, 1, 6, 5, 1007, 1006, 9, 1005, 7, 0, 8, 10, 0, 0};
        private static final int[] RM = {12, 7, 0, 0, 1, 6, 1, 0, 6, 5, 1007, 1006, 9, 1005, 9, 0, 12, 4, 1006, 0,
            56, 3, 1004, 0, 9, 1003, 10, 0, 2, 6, 1006, 1, 8, 2, 0, 0, 22, 0, 0, 0, 22, 1, 0, 0};
        private static final int[] LN = {12, 4, 1, 0, 12, 5, 2, 0, 57, 3, 1004, 1005, 6, 3, 1003, 0, 22, 1003, 0, 0};
        private static final int[] CHMOD = {12, 4, 1, 0, 12, 5, 2, 0, 61, 3, 1005, 1004, 6, 3, 1003, 0,
            22, 1003, 0, 0};
        private static final int[] LS = {12, 4, 1, 0, 1, 6, 0, 0, 70, 3, 1004, 1006, 6, 5, 1003, 1, 9, 1005, 13, 0,
            5, 2, 1003, 100, 4, 2, 1002, 100, 3, 3, 1003, 1002, 2, 3, 1003, 96, 53, 5, 1, 1003, 53, 5, 1, 10,
            2, 6, 1006, 1, 8, 2, 0, 0, 6, 3, 1003, 0, 22, 1003, 0, 0};
        private static final int[] WC = {1, 7, 0, 0, 52, 0, 0, 1, 6, 5, 1001, 1, 9, 1005, 6, 0, 2, 7, 1007, 1,
            8, 1, 0, 0, 1, 6, 0, 0, 14, 3, 1007, 1006, 7, 5, 1003, 0, 9, 1005, 13, 0, 53, 5, 1, 1003, 2, 6, 1006, 1,
            8, 7, 0, 0, 53, 5, 1, 10, 22, 0, 0, 0};
        private static final int[] SLEEP = {12, 4, 1, 0, 33, 1004, 0, 0, 22, 0, 0, 0};
        private static final int[] LP = {52, 0, 0, 1, 6, 5, 1001, 1, 9, 1005, 5, 0, 71, 5, 1000, 0, 8, 0, 0, 0,
            71, 5, 0, 0, 22, 0, 0, 0};
        private static final int[] SYNC = {64, 5, 0, 0, 22, 0, 0, 0};

        final Machine[] machines = new Machine[MACHINES];
        int clock;
        int z;
        final int[][] program = new int[SHELL][MOST_ROWS * 4];
        final int[] rowCount = new int[SHELL];
        // Of each user: the bits of groups, the share, the quotas of blocks and of inodes.
        final int[][] users = new int[USERS][4];
        // Of each pair of machines: the delay, the loss, the doubling, 1 if it is cut.
        final int[][] links = new int[MACHINES][4];
        final int[] packets = new int[PACKETS * WIDTH];
        int packetCount;
        // What answers of far files carry: the inode, the size, the cells.
        final int[][] parcels = new int[PARCELS][PARCEL_WIDTH];
        final int[][] trace = new int[TRACE][4];
        int traceCount;
        // The faults of the disc that was looked at last.
        final int[] found = new int[FOUND * FOUND_WIDTH];

        static World make() {
            World w = new World();
            for (int m = 0; m < MACHINES; m++) {
                w.machines[m] = Machine.make(w, m);
            }
            w.makeNew();
            return w;
        }

        /** All is as at first. */
        void makeNew() {
            clock = 0;
            z = 0;
            packetCount = 0;
            traceCount = 0;
            for (int i = 0; i < SHELL; i++) {
                rowCount[i] = 0;
            }
            putTools();
            for (int u = 0; u < USERS; u++) {
                setUser(u, 0, 1, 40, 20);
            }
            for (int i = 0; i < MACHINES; i++) {
                links[i][0] = 3;
                links[i][1] = 0;
                links[i][2] = 0;
                links[i][3] = 0;
            }
            for (int m = 0; m < MACHINES; m++) {
                machines[m].makeNew();
            }
        }

        private void putTools() {
            putTool(16, ECHO);
            putTool(17, CAT);
            putTool(18, RM);
            putTool(19, RM);
            program[19][5 * 4] = 55;
            putTool(20, LN);
            putTool(21, LN);
            program[21][2 * 4] = 59;
            putTool(22, CHMOD);
            putTool(23, LS);
            putTool(24, WC);
            putTool(25, SLEEP);
            putTool(26, LP);
            putTool(27, SYNC);
        }

        private void putTool(int number, int[] rows) {
            System.arraycopy(rows, 0, program[number], 0, rows.length);
            rowCount[number] = rows.length / 4;
        }

        void setRow(int number, int at, int op, int a, int b, int c) {
            if (at < 0 || at >= MOST_ROWS) {
                return;
            }
            int[] rows = program[number];
            rows[at * 4] = op;
            rows[at * 4 + 1] = a;
            rows[at * 4 + 2] = b;
            rows[at * 4 + 3] = c;
            rowCount[number] = Math.max(rowCount[number], at + 1);
        }

        int setUser(int user, int groups, int share, int blocks, int inodes) {
            int before = users[user][1];
            users[user][0] = groups;
            users[user][1] = share;
            users[user][2] = blocks;
            users[user][3] = inodes;
            return before;
        }

        int shareOf(int user) {
            return users[user][1];
        }

        int setLink(int one, int other, int delay, int loss, int twice) {
            int[] pair = links[one + other - 1];
            int before = pair[DELAY];
            pair[DELAY] = delay;
            pair[LOSS] = loss;
            pair[TWICE] = twice;
            return before;
        }

        boolean setCut(int one, int other, boolean isCut) {
            int[] pair = links[one + other - 1];
            boolean before = pair[CUT] != 0;
            pair[CUT] = isCut ? 1 : 0;
            return before;
        }

        int setSeed(int seed) {
            int before = z;
            z = seed;
            return before;
        }

        void tellTask(int machine, int thread, int op, int a, int b, int c) {
            Task k = machines[machine].tasks[thread];
            k.told[0] = op;
            k.told[1] = a;
            k.told[2] = b;
            k.told[3] = c;
            machines[machine].makeReady(thread);
        }

        void note(int machine, int sign, int number) {
            int[] row = trace[traceCount % TRACE];
            row[0] = clock;
            row[1] = machine;
            row[2] = sign;
            row[3] = number;
            traceCount++;
        }

        // ---- a tick ----

        void tick() {
            clock++;
            for (int m = 0; m < MACHINES; m++) {
                Machine x = machines[m];
                deliver(m, x);
                if (!x.up) {
                    continue;
                }
                x.wakeSleepers();
                x.soundAlarms();
                x.net.doDue();
                x.net.sendDue();
                x.net.endLeases();
                x.store.giveUpOne();
                x.drive.closeIfFull();
                x.net.serve();
                x.drive.closeIfFull();
                x.drive.turn();
                x.files.printOne();
                if (clock % 8 == 0) {
                    x.ageFrames();
                }
                if (clock % 16 == 0) {
                    x.drive.closeIfOpen();
                }
                if (clock % 32 == 0) {
                    x.halveLoads();
                }
                int t = x.chooseTask();
                if (t >= 0) {
                    Shell shell = x.beginRun(t);
                    int code = shell == null ? x.rows.perform(t) : shell.doStep(t);
                    x.drive.closeIfFull();
                    x.finish(t, code);
                    x.endRun(t);
                }
            }
        }

        // ---- packets ----

        /** Sends a packet: it is lost, or arrives, or arrives twice. */
        void post(int from, int to, int kind, int a, int b, int c, int d) {
            int copies = 1;
            int at = clock + 1;
            if (from != to) {
                int[] pair = links[from + to - 1];
                boolean isLost = pair[CUT] != 0;
                if (!isLost) {
                    z = z * 1103515245 + 12345;
                    isLost = (z >>> 16) % 10 < pair[LOSS];
                }
                if (isLost) {
                    int[] row = trace[traceCount % TRACE];
                    row[0] = clock;
                    row[1] = from;
                    row[2] = 'l';
                    row[3] = to;
                    traceCount++;
                    return;
                }
                z = z * 1103515245 + 12345;
                at = clock + pair[DELAY];
                copies = (z >>> 16) % 10 < pair[TWICE] ? 2 : 1;
            }
            // There is room for more than any run can have under way.
            for (int n = 0; n < copies && packetCount < PACKETS; n++) {
                int i = packetCount * WIDTH;
                packets[i + AT] = at + 2 * n;
                packets[i + TO] = to;
                packets[i + FROM] = from;
                packets[i + KIND] = kind;
                packets[i + 4] = a;
                packets[i + 5] = b;
                packets[i + 6] = c;
                packets[i + 7] = d;
                packetCount++;
            }
        }

        private void deliver(int machine, Machine x) {
            int count = packetCount;
            boolean some = false;
            for (int n = 0; n < count; n++) {
                int i = n * WIDTH;
                if (packets[i + TO] == machine && packets[i + AT] == clock) {
                    some = true;
                    packets[i + AT] = -1;
                    if (x.up) {
                        hand(x, i);
                    } else {
                        note(packets[i + FROM], 'l', machine);
                    }
                }
            }
            if (some) {
                dropDelivered();
            }
        }

        private void dropDelivered() {
            int kept = 0;
            for (int n = 0; n < packetCount; n++) {
                if (packets[n * WIDTH + AT] >= 0) {
                    if (kept != n) {
                        System.arraycopy(packets, n * WIDTH, packets, kept * WIDTH, WIDTH);
                    }
                    kept++;
                }
            }
            packetCount = kept;
        }

        private void hand(Machine x, int i) {
            int from = packets[i + FROM];
            int a = packets[i + 4];
            int b = packets[i + 5];
            int c = packets[i + 6];
            int d = packets[i + 7];
            switch (packets[i + KIND]) {
                case 'O': x.net.asked(from, b, c); break;
                case 'A': x.net.accepted(from, a, b); break;
                case 'X': x.net.refused(a); break;
                case 'D': x.net.came(from, a, b, c, d); break;
                case 'F': x.net.closed(from, a, b, c); break;
                case 'K': x.net.acknowledged(from, a, b, c); break;
                case 'N': x.net.answerName(from, a, b, c, d); break;
                case 'M': x.net.nameAnswered(a, b); break;
                case 'R': x.net.takeRequest(from, a, b, c, d); break;
                case 'Q': x.net.fileAnswered(a, b, c, d); break;
                case 'T': x.net.giveBack(from, a); break;
                default: x.net.gotBack(from, a); break;
            }
        }

        int countPackets(int machine) {
            int count = 0;
            for (int n = 0; n < packetCount; n++) {
                if (packets[n * WIDTH + TO] == machine) {
                    count++;
                }
            }
            return count;
        }

        /** A parcel that no packet carries and no server may send again. */
        int freeParcel() {
            for (int p = 0; p < PARCELS; p++) {
                boolean used = false;
                for (int n = 0; n < packetCount && !used; n++) {
                    used = packets[n * WIDTH + KIND] == 'Q' && packets[n * WIDTH + 6] == p;
                }
                for (int m = 0; m < MACHINES && !used; m++) {
                    used = machines[m].net.keepsParcel(p);
                }
                if (!used) {
                    return p;
                }
            }
            return 0;
        }

        // ---- the sum ----

        long sum() {
            long s = 7L * 31 + clock;
            for (int m = 0; m < MACHINES; m++) {
                Machine x = machines[m];
                s = s * 31 + (x.up ? 1 : 0);
                for (int b = 0; b < Drive.BLOCKS; b++) {
                    for (int i = 0; i < 8; i++) {
                        s = s * 31 + x.drive.cells[b][i];
                    }
                }
                s = s * 31 + x.busy;
                s = s * 31 + x.files.lastShown();
                if (x.up) {
                    s = x.sum(s);
                }
            }
            return s;
        }
    }

    /** A process. Its pages are told by Memory, the job that it prints by Files. */
    private static final class Proc {
        static final int FIRST_ACT = -1;
        static final int NO_ACT = -2;

        int state;
        boolean stopped;
        int value;
        int parent;
        int user;
        int program;
        int version;
        int directory;
        final int[] files = new int[6];
        final int[] args = new int[64];
        // For each signal the row that is gone to, or what is done at first, or nothing.
        final int[] acts = new int[12];
        int mask;
        int pending;
        // Those of the signals that wait which a row of this process sent.
        int pendingOwn;
        int priority;
        int limit;
        int ticks;
        int alarm;
        // The change of its program: the one that waits, the one before, when it was; -1 for none.
        int nextProgram;
        int oldProgram;
        int changedAt;
        Shell shell;

        boolean isAlive() {
            return state == READY;
        }

        void forgetActs() {
            for (int s = 0; s < 12; s++) {
                acts[s] = FIRST_ACT;
            }
        }

        void makeNew(int newParent, int newUser, int newProgram) {
            state = READY;
            stopped = false;
            value = 0;
            parent = newParent;
            user = newUser;
            program = newProgram;
            version = 0;
            directory = 0;
            Arrays.fill(files, -1);
            Arrays.fill(args, 0);
            forgetActs();
            mask = 0;
            pending = 0;
            pendingOwn = 0;
            priority = 4;
            limit = 8;
            ticks = 0;
            alarm = 0;
            nextProgram = -1;
            oldProgram = -1;
            changedAt = -1;
        }

        /** The lowest signal that waits, is not masked, and has a row or has none, as told; 0 without one. */
        int lowestPending(boolean hasRow) {
            int open = pending & ~mask;
            for (int s = 1; s < 12; s++) {
                if ((open >> s & 1) != 0 && (acts[s] >= 0) == hasRow) {
                    return s;
                }
            }
            return 0;
        }

        void dropPending(int signal) {
            pending &= ~(1 << signal);
            pendingOwn &= ~(1 << signal);
        }

        int freeFile() {
            for (int f = 0; f < 6; f++) {
                if (files[f] < 0) {
                    return f;
                }
            }
            return -1;
        }
    }

    /** A thread, with what it waits for and what a row of it began. */
    private static final class Task {
        // What a row began that takes more than one run.
        static final int OP = 0;
        static final int TARGET = 1;
        static final int OVER = 2;
        static final int ANSWER = 3;
        static final int NUMBER = 4;
        static final int DUE = 5;
        static final int SENT = 6;
        static final int ORDER = 7;
        static final int TAKEN = 8;
        static final int B = 9;
        static final int C = 10;
        static final int D = 11;
        static final int BEGUN = 12;

        int state;
        int id;
        int proc;
        int row;
        final int[] regs = new int[8];
        int value;
        int sign;
        int number;
        int waitOp;
        int waitOrder;
        int readyOrder;
        int readyAt;
        int wakeAt;
        boolean diverted;
        int keptRow;
        final int[] told = new int[4];
        final int[] begun = new int[BEGUN];

        boolean isLive() {
            return state == READY || state == WAITS;
        }

        boolean canBeInterrupted() {
            return state == WAITS && sign != 'b' && sign != 'g' && sign != 's' && sign != 'd' && sign != 'r';
        }
    }

    /** A machine: its processes and threads, who runs, signals, locks, queues, accounts. */
    private static final class Machine {
        static final int TICKS = 0;
        static final int FRAMES = 1;
        static final int READS = 2;
        static final int WRITES = 3;
        static final int SENT = 4;
        static final int COUNTS = 5;

        // What becomes of a process by a signal, where it is no thread that gives up its row.
        private static final int NOTHING_ELSE = -1;
        private static final int ENDS = -2;

        final World world;
        final int number;
        boolean up;
        final Proc[] procs = new Proc[PROCS];
        final Task[] tasks = new Task[TASKS];
        final int[] loads = new int[USERS];
        int lastRan;
        // The thread that runs on, if it can, and for how many ticks it ran in a row.
        int current;
        int runs;
        // Grows with everything that has to be told apart by what was first.
        int order;
        int loginShell;
        final long[] accounts = new long[USERS * COUNTS];
        int busy;
        Memory memory;
        Drive drive;
        Store store;
        Files files;
        Net net;
        Rows rows;

        private Machine(World world, int number) {
            this.world = world;
            this.number = number;
            for (int p = 0; p < PROCS; p++) {
                procs[p] = new Proc();
            }
            for (int t = 0; t < TASKS; t++) {
                tasks[t] = new Task();
            }
        }

        static Machine make(World world, int number) {
            Machine x = new Machine(world, number);
            x.memory = new Memory(x);
            x.drive = new Drive(x);
            x.store = new Store(x);
            x.files = new Files(x);
            x.net = Net.make(x);
            x.rows = new Rows(x);
            return x;
        }

        void makeNew() {
            up = true;
            busy = 0;
            order = 0;
            for (int i = 0; i < accounts.length; i++) {
                accounts[i] = 0;
            }
            drive.format();
            files.forgetTold();
            net.makeNew();
            clear();
            store.forget();
        }

        /** What is gone as the machine falls down. */
        private void clear() {
            for (int p = 0; p < PROCS; p++) {
                procs[p].makeNew(0, 0, DRIVEN);
                procs[p].state = p == 0 ? READY : FREE;
            }
            for (int t = 0; t < TASKS; t++) {
                tasks[t].state = FREE;
                tasks[t].begun[Task.OP] = 0;
            }
            Arrays.fill(loads, 0);
            lastRan = -1;
            current = -1;
            runs = 0;
            loginShell = -1;
            rows.clear();
            memory.clear();
            drive.clear();
            files.clear();
            net.clear();
        }

        int fallDown() {
            int lost = drive.phase <= 2 ? drive.memberCount : 0;
            world.note(number, 'x', lost);
            up = false;
            clear();
            store.forget();
            return lost;
        }

        int startAnew() {
            int written = drive.recover();
            store.forget();
            store.mendAll();
            drive.prove();
            up = true;
            net.grace = net.latestEnd > world.clock ? net.latestEnd : 0;
            world.note(number, 'y', written);
            return written;
        }

        int spoilCell(int block, int cell, int value) {
            int before = drive.cells[block][cell];
            drive.cells[block][cell] = value;
            store.mem[block][cell] = value;
            drive.spoiled = true;
            return before;
        }

        // ---- processes ----

        boolean hasRoom(int count) {
            int p = 0;
            int t = 0;
            for (int i = 0; i < PROCS; i++) {
                p += procs[i].state == FREE ? 1 : 0;
            }
            for (int i = 0; i < TASKS; i++) {
                t += tasks[i].state == FREE ? 1 : 0;
            }
            return p >= count && t >= count;
        }

        int freeTask() {
            for (int t = 0; t < TASKS; t++) {
                if (tasks[t].state == FREE) {
                    return t;
                }
            }
            return -1;
        }

        /** Makes a process with one thread; there must be room for both. */
        int makeProcess(int parent, int user, int program) {
            int p = 1;
            while (p < PROCS - 1 && procs[p].state != FREE) {
                p++;
            }
            procs[p].makeNew(parent, user, program);
            memory.forgetPages(p);
            world.note(number, 'p', p);
            makeTask(p, 0);
            return p;
        }

        /** Makes a thread; there must be room for it. */
        int makeTask(int p, int row) {
            int t = Math.max(0, freeTask());
            Task k = tasks[t];
            k.id = ++order;
            k.proc = p;
            k.row = row;
            Arrays.fill(k.regs, 0);
            k.value = 0;
            k.diverted = false;
            k.begun[Task.OP] = 0;
            k.waitOp = 0;
            if (procs[p].program == DRIVEN) {
                hold(t, 'h', 0);
            } else {
                makeReady(t);
            }
            return t;
        }

        int makeLoginShell(int user) {
            int p = makeProcess(0, user, SHELL);
            int f = files.add(Files.TERMINAL, 0, 3);
            files.refs[f] = 2;
            procs[p].files[0] = f;
            procs[p].files[1] = f;
            makeShell(p, Shell.TERMINAL);
            loginShell = p;
            return p;
        }

        void makeShell(int p, int source) {
            if (procs[p].shell == null) {
                procs[p].shell = new Shell(this, p);
            }
            procs[p].shell.makeNew(source);
        }

        /** How many threads of a process did not end. */
        int liveTasks(int p) {
            int count = 0;
            for (int t = 0; t < TASKS; t++) {
                if (tasks[t].isLive() && tasks[t].proc == p) {
                    count++;
                }
            }
            return count;
        }

        int lowestTask(int p) {
            for (int t = 0; t < TASKS; t++) {
                if (tasks[t].isLive() && tasks[t].proc == p) {
                    return t;
                }
            }
            return -1;
        }

        int tellOfProcess(int p, char what) {
            Proc x = procs[p];
            switch (what) {
                case 'p': return x.parent;
                case 'u': return x.user;
                case 'g': return x.program;
                case 'v': return x.version;
                case 'd': return x.directory;
                case 's': return x.state == ENDED ? 2 : x.stopped ? 1 : 0;
                case 'x': return x.value;
                case 'm': return x.mask;
                case 'w': return x.pending;
                case 'r': return x.priority;
                case 'l': return x.limit;
                case 't': return x.ticks;
                case 'f': return memory.countInFrames(p);
                case 'h': return liveTasks(p);
                default: return countChildren(p);
            }
        }

        int countChildren(int p) {
            int count = 0;
            for (int q = 1; q < PROCS; q++) {
                if (procs[q].state != FREE && procs[q].parent == p) {
                    count++;
                }
            }
            return count;
        }

        void endProcess(int p, int value) {
            Proc x = procs[p];
            world.note(number, 'e', 1000 * p + value);
            x.state = ENDED;
            x.value = value;
            for (int t = 0; t < TASKS; t++) {
                if (tasks[t].state != FREE && tasks[t].proc == p) {
                    dropTask(t);
                }
            }
            for (int f = 0; f < 6; f++) {
                int open = x.files[f];
                x.files[f] = -1;
                int e = open >= 0 ? files.release(open) : -1;
                if (e >= 0) {
                    net.shut(e);
                }
            }
            memory.dropPages(p);
            for (int l = 0; l < Rows.LOCKS; l++) {
                if (rows.holder[l] >= 0 && tasks[rows.holder[l]].proc == p) {
                    breakLock(l);
                }
            }
            endCalls(p);
            net.closePorts(p);
            files.endJob(p);
            for (int q = 1; q < PROCS; q++) {
                if (procs[q].state != FREE && procs[q].parent == p) {
                    procs[q].parent = 0;
                    procs[q].state = procs[q].state == ENDED ? FREE : procs[q].state;
                }
            }
            loginShell = loginShell == p ? -1 : loginShell;
            if (x.parent == 0) {
                x.state = FREE;
                return;
            }
            int interrupted = procs[x.parent].acts[5] >= 0 ? keepSignal(x.parent, 5, false, false) : NOTHING_ELSE;
            if (interrupted >= 0) {
                interrupt(interrupted);
            }
            wake('c', x.parent);
        }

        private void endCalls(int p) {
            for (int t = 0; t < TASKS; t++) {
                int[] begun = tasks[t].begun;
                if (tasks[t].isLive() && begun[Task.OP] == 44 && begun[Task.TARGET] == p && begun[Task.OVER] == 0) {
                    begun[Task.OVER] = 1;
                    begun[Task.ANSWER] = NO_PROCESS;
                }
            }
            wake('m', p);
        }

        // ---- threads ----

        void makeReady(int t) {
            Task k = tasks[t];
            k.state = READY;
            k.readyAt = world.clock;
            k.readyOrder = ++order;
            if (current == t) {
                current = -1;
            }
        }

        void hold(int t, int sign, int number) {
            Task k = tasks[t];
            k.state = WAITS;
            k.sign = sign;
            k.number = number;
            k.waitOrder = ++order;
        }

        /** Makes all that wait for this ready, in the order in which they began to wait. */
        void wake(int sign, int number) {
            for (int round = 0; round < TASKS; round++) {
                int first = -1;
                for (int t = 0; t < TASKS; t++) {
                    Task k = tasks[t];
                    if (k.state == WAITS && k.sign == sign && (number == ANY || k.number == number)
                            && (first < 0 || k.waitOrder < tasks[first].waitOrder)) {
                        first = t;
                    }
                }
                if (first < 0) {
                    return;
                }
                order++;
                Task k = tasks[first];
                k.state = READY;
                k.readyAt = world.clock;
                k.readyOrder = order;
                current = current == first ? -1 : current;
            }
        }

        int countWaiting(int sign, int number) {
            int count = 0;
            for (int t = 0; t < TASKS; t++) {
                if (tasks[t].state == WAITS && tasks[t].sign == sign && tasks[t].number == number) {
                    count++;
                }
            }
            return count;
        }

        boolean isToBeTold(int t) {
            return tasks[t].state == WAITS && tasks[t].sign == 'h';
        }

        /** What a row of it began is given up. */
        void forgetBegun(int t) {
            int[] begun = tasks[t].begun;
            int op = begun[Task.OP];
            begun[Task.OP] = 0;
            if (op == 81) {
                net.drop(begun[Task.TARGET]);
            } else if ((op == 85 || op == 86) && begun[Task.OVER] == 0) {
                net.asker = -1;
                wake('x', ANY);
            }
        }

        void dropTask(int t) {
            tasks[t].state = FREE;
            forgetBegun(t);
            if (current == t) {
                current = -1;
            }
        }

        void breakLock(int l) {
            rows.holder[l] = -1;
            rows.broken[l] = 1;
            wake('l', l);
        }

        void breakLocksOf(int t) {
            for (int l = 0; l < Rows.LOCKS; l++) {
                if (rows.holder[l] == t) {
                    breakLock(l);
                }
            }
        }

        void endTask(int t, int value) {
            Task k = tasks[t];
            if (liveTasks(k.proc) <= 1) {
                endProcess(k.proc, Math.floorMod(value, 256));
                return;
            }
            k.state = ENDED;
            k.value = value;
            forgetBegun(t);
            wake('j', t);
            breakLocksOf(t);
        }

        /** Whether a thread that was told a row has done it, or cannot do it any more. */
        boolean hasDone(int t, int id) {
            Task k = tasks[t];
            return k.id != id || !k.isLive() || procs[k.proc].program != DRIVEN
                    || (k.state == WAITS && k.sign == 'h');
        }

        /** What does() answers for a thread that has done its row, or cannot do it any more. */
        int answerOf(int t, int id, int register) {
            Task k = tasks[t];
            if (k.id != id || !k.isLive()) {
                return -1001;
            }
            if (procs[k.proc].program != DRIVEN) {
                return -1002;
            }
            return register >= 0 && register <= 7 ? k.regs[register] : 0;
        }

        int waitedFor(int t) {
            Task k = tasks[t];
            if (k.state != WAITS) {
                return -1;
            }
            if (k.sign == 'l' && k.number >= 0 && k.number < Rows.LOCKS) {
                return rows.holder[k.number];
            }
            if (k.sign == 'm') {
                return lowestTask(k.number);
            }
            return k.sign == 'j' ? k.number : -1;
        }

        int ringBits() {
            int bits = 0;
            for (int t = 0; t < TASKS; t++) {
                int at = t;
                for (int i = 0; i < TASKS && at >= 0; i++) {
                    at = waitedFor(at);
                    if (at == t) {
                        bits |= 1 << t;
                        at = -1;
                    }
                }
            }
            return bits;
        }

        // ---- who runs ----

        private boolean canRun(int t) {
            return tasks[t].state == READY && !procs[tasks[t].proc].stopped;
        }

        private int chooseUser() {
            int best = -1;
            for (int t = 0; t < TASKS; t++) {
                if (!canRun(t)) {
                    continue;
                }
                int u = procs[tasks[t].proc].user;
                if (best < 0) {
                    best = u;
                }
                long mine = (long) loads[u] * world.shareOf(best);
                long other = (long) loads[best] * world.shareOf(u);
                if (mine < other || (mine == other && u < best)) {
                    best = u;
                }
            }
            return best;
        }

        private int rankOf(int t) {
            return procs[tasks[t].proc].priority + (world.clock - tasks[t].readyAt) / 4;
        }

        /** The thread that runs in this tick, -1 for none. */
        int chooseTask() {
            int best = current >= 0 && canRun(current) ? current : -1;
            lastRan = best;
            if (best >= 0) {
                return best;
            }
            current = -1;
            int user = chooseUser();
            for (int t = 0; t < TASKS; t++) {
                if (canRun(t) && procs[tasks[t].proc].user == user
                        && (best < 0 || rankOf(t) > rankOf(best)
                        || (rankOf(t) == rankOf(best) && tasks[t].readyOrder < tasks[best].readyOrder))) {
                    best = t;
                }
            }
            lastRan = best;
            return best;
        }

        /** Counts that a thread runs: its shell, if it is that of one. */
        Shell beginRun(int t) {
            Proc x = procs[tasks[t].proc];
            runs = current == t ? runs + 1 : 1;
            current = t;
            loads[x.user]++;
            accounts[x.user * COUNTS + TICKS]++;
            busy++;
            x.ticks++;
            return x.program == SHELL ? x.shell : null;
        }

        /** What has to happen behind a row, by what came of it. */
        void finish(int t, int code) {
            int p = tasks[t].proc;
            if (code == DONE || code == FAULT || code == NO_READER || code == SIGNAL || code == LOOSE) {
                goOn(t);
            }
            switch (code) {
                case ILL: act(p, 4, true); break;
                case FAULT: act(p, 8, true); break;
                case NO_READER: act(p, 6, true); break;
                case SIGNAL:
                    for (int q = 1; q < PROCS; q++) {
                        if ((rows.targets >> q & 1) != 0) {
                            act(q, rows.out, q == p);
                        }
                    }
                    break;
                case LOOSE:
                case NEW_PROGRAM: act(p, 0, false); break;
                case END_PROCESS: endProcess(p, rows.out); break;
                case END_THREAD: endTask(t, rows.out); break;
                default: break;
            }
        }

        /** Behind a row a change of the program may take place, and each third one in a row makes ready anew. */
        void endRun(int t) {
            int p = tasks[t].proc;
            if (procs[p].isAlive() && procs[p].nextProgram >= 0 && changeIfIdle(p)) {
                act(p, 0, false);
            }
            if (tasks[t].state == READY && runs >= 3) {
                makeReady(t);
            }
        }

        /** The thread is behind the row that it did. */
        private void goOn(int t) {
            int program = procs[tasks[t].proc].program;
            if (program == DRIVEN) {
                hold(t, 'h', 0);
            } else if (program != SHELL) {
                tasks[t].row++;
            }
        }

        void wakeSleepers() {
            for (int t = 0; t < TASKS; t++) {
                Task k = tasks[t];
                if (k.state == WAITS && k.sign == 't' && k.wakeAt == world.clock) {
                    if (procs[k.proc].program == DRIVEN) {
                        hold(t, 'h', 0);
                    } else {
                        makeReady(t);
                    }
                }
            }
        }

        void soundAlarms() {
            for (int p = 1; p < PROCS; p++) {
                if (procs[p].isAlive() && procs[p].alarm == world.clock) {
                    procs[p].alarm = 0;
                    act(p, 7, false);
                }
            }
        }

        void halveLoads() {
            for (int u = 0; u < USERS; u++) {
                loads[u] /= 2;
            }
        }

        void ageFrames() {
            memory.grow();
            for (int p = 1; p < PROCS; p++) {
                if (procs[p].isAlive()) {
                    accounts[procs[p].user * COUNTS + FRAMES] += memory.countInFrames(p);
                }
            }
        }

        // ---- signals ----

        private boolean doesNothing(Proc x, int s) {
            if (x.program == SHELL) {
                return s == 2 || s == 5 || s == 7 || s == 9 || s == 10;
            }
            if (s == 9) {
                return x.stopped;
            }
            return x.acts[s] == Proc.NO_ACT || (x.acts[s] == Proc.FIRST_ACT && (s == 5 || s == 10));
        }

        /**
         * Sends a signal, 0 for none; behind that those that waited and are not kept any more are as sent, all of
         * them, also behind one that ended the process.
         */
        void act(int p, int first, boolean isOwn) {
            Proc x = procs[p];
            int s = first;
            boolean own = isOwn;
            for (int i = 0; i < 40; i++) {
                int code = s > 0 && x.isAlive() ? takeSignal(p, s, own) : NOTHING_ELSE;
                if (code >= 0) {
                    interrupt(code);
                } else if (code == ENDS && own && (s == 4 || s == 8) && x.changedAt >= 0
                        && world.clock <= x.changedAt + 20) {
                    takeBack(p);
                } else if (code == ENDS) {
                    endProcess(p, 128 + s);
                }
                s = x.lowestPending(false);
                if (s == 0) {
                    return;
                }
                own = (x.pendingOwn >> s & 1) != 0;
                x.dropPending(s);
            }
        }

        /** What a signal does at once, but for the thread that gives up its row, which is told, and for ENDS. */
        private int takeSignal(int p, int s, boolean own) {
            Proc x = procs[p];
            boolean starts = s == 10 && x.stopped;
            boolean nothing = doesNothing(x, s);
            boolean stays = !nothing && s != 3 && s != 9 && ((x.mask >> s & 1) != 0 || x.acts[s] >= 0);
            if (starts) {
                world.note(number, 's', 100 * p + s);
                x.stopped = false;
                for (int t = 0; t < TASKS; t++) {
                    if (tasks[t].state == READY && tasks[t].proc == p) {
                        makeReady(t);
                    }
                }
            }
            if (nothing) {
                return NOTHING_ELSE;
            }
            if (stays) {
                return keepSignal(p, s, starts, own);
            }
            if (!starts) {
                world.note(number, 's', 100 * p + s);
            }
            if (s != 9) {
                return ENDS;
            }
            x.stopped = true;
            wake('c', x.parent);
            return NOTHING_ELSE;
        }

        /** The signal waits; the thread that gives up its row for it, if one has to. */
        private int keepSignal(int p, int s, boolean isNoted, boolean own) {
            Proc x = procs[p];
            if ((x.pending >> s & 1) != 0) {
                return NOTHING_ELSE;
            }
            if (!isNoted) {
                world.note(number, 's', 100 * p + s);
            }
            x.pending |= 1 << s;
            x.pendingOwn |= own ? 1 << s : 0;
            if (x.acts[s] < 0 || (x.mask >> s & 1) != 0) {
                return NOTHING_ELSE;
            }
            int lowest = NOTHING_ELSE;
            for (int t = TASKS - 1; t >= 0; t--) {
                if (tasks[t].proc == p && tasks[t].state == READY) {
                    return NOTHING_ELSE;
                }
                if (tasks[t].proc == p && tasks[t].canBeInterrupted()) {
                    lowest = t;
                }
            }
            return lowest;
        }

        private void interrupt(int t) {
            Task k = tasks[t];
            if (k.sign != 't') {
                int r = rows.answerRegister(t);
                if (r >= 0) {
                    k.regs[r] = -4;
                }
                k.row++;
            }
            k.state = READY;
            forgetBegun(t);
            makeReady(t);
        }

        /** Sends a signal to all processes that the shell of the terminal runs in front. */
        void signalFront(int s) {
            Shell shell = loginShell >= 0 ? procs[loginShell].shell : null;
            int bits = shell == null ? 0 : shell.jobs[0][Shell.BITS];
            for (int q = 1; q < PROCS; q++) {
                if ((bits >> q & 1) != 0 && procs[q].isAlive()) {
                    act(q, s, false);
                }
            }
        }

        // ---- changes of programs ----

        boolean askChange(int p, int program) {
            procs[p].nextProgram = program;
            if (!changeIfIdle(p)) {
                return false;
            }
            act(p, 0, false);
            return true;
        }

        private boolean changeIfIdle(int p) {
            for (int t = 0; t < TASKS; t++) {
                Task k = tasks[t];
                if (k.proc == p && (k.state == READY || (k.state == WAITS
                        && k.waitOp != 43 && k.waitOp != 45 && k.waitOp != 82))) {
                    return false;
                }
            }
            Proc x = procs[p];
            x.oldProgram = x.program;
            x.changedAt = world.clock;
            x.program = x.nextProgram;
            x.nextProgram = -1;
            world.note(number, 'u', p);
            beginAnew(p, x.version);
            return true;
        }

        private void takeBack(int p) {
            Proc x = procs[p];
            x.program = x.oldProgram;
            x.changedAt = -1;
            world.note(number, 't', p);
            beginAnew(p, -1);
        }

        private void beginAnew(int p, int told) {
            Proc x = procs[p];
            x.version++;
            x.forgetActs();
            for (int t = 0; t < TASKS; t++) {
                Task k = tasks[t];
                if (k.proc == p && k.isLive()) {
                    forgetBegun(t);
                    k.row = 0;
                    k.regs[7] = told;
                    k.diverted = false;
                    makeReady(t);
                }
            }
        }

        // ---- all together ----

        boolean isInOrder() {
            long ticks = 0;
            for (int u = 0; u < USERS; u++) {
                ticks += accounts[u * COUNTS + TICKS];
            }
            return ticks == busy && memory.isInOrder() && drive.safe <= drive.given
                    && (drive.spoiled || store.scan() == 0);
        }

        long sum(long s) {
            for (int t = 0; t < TASKS; t++) {
                if (tasks[t].state == FREE) {
                    s = s * 31 - 1;
                    continue;
                }
                s = s * 31 + tasks[t].row;
                for (int r = 0; r < 8; r++) {
                    s = s * 31 + tasks[t].regs[r];
                }
            }
            for (int p = 0; p < PROCS; p++) {
                s = s * 31 + (procs[p].state == FREE ? -1 : 100 * procs[p].version + procs[p].program);
            }
            return s;
        }
    }

    /** The frames of a machine, and where the pages of its processes are. */
    private static final class Memory {
        static final int FRAMES = 8;
        static final int UNUSED = 0;
        static final int USED = 1;
        static final int COMES = 2;
        static final int GOES = 3;

        // What the use of an address answers, where it is no frame.
        static final int MUST_WAIT = -1;
        static final int NOT_THERE = -2;
        static final int NO_BLOCK = -3;

        final Machine machine;
        final int[][] cells = new int[FRAMES][8];
        final int[] phase = new int[FRAMES];
        final int[] age = new int[FRAMES];
        final int[] block = new int[FRAMES];
        final boolean[] marked = new boolean[FRAMES];
        final boolean[] clean = new boolean[FRAMES];
        final int[][] sign = new int[PROCS][8];
        final int[][] at = new int[PROCS][8];
        // What a thread has to wait for that could not use an address.
        int waitSign;
        int waitNumber;

        Memory(Machine machine) {
            this.machine = machine;
        }

        void clear() {
            for (int f = 0; f < FRAMES; f++) {
                makeUnused(f);
            }
            for (int p = 0; p < PROCS; p++) {
                forgetPages(p);
            }
        }

        void forgetPages(int p) {
            for (int g = 0; g < 8; g++) {
                sign[p][g] = 'n';
                at[p][g] = 0;
            }
        }

        private void makeUnused(int f) {
            phase[f] = UNUSED;
            age[f] = 0;
            block[f] = -1;
            marked[f] = false;
            clean[f] = false;
        }

        private void take(int f, int newPhase, int newBlock) {
            phase[f] = newPhase;
            age[f] = 128;
            block[f] = newBlock;
            marked[f] = false;
            clean[f] = false;
        }

        private static boolean isInFrame(int s) {
            return s == 'f' || s == 'c' || s == 'o';
        }

        int countPages(int f) {
            int count = 0;
            for (int p = 0; p < PROCS; p++) {
                for (int g = 0; g < 8; g++) {
                    int s = sign[p][g];
                    if ((s == 'f' || s == 'c' || s == 'o') && at[p][g] == f) {
                        count++;
                    }
                }
            }
            return count;
        }

        int countInFrames(int p) {
            int count = 0;
            for (int g = 0; g < 8; g++) {
                count += sign[p][g] == 'f' ? 1 : 0;
            }
            return count;
        }

        /** All pages that are so, and there, are so, and there. */
        private void movePages(int oldSign, int oldAt, int newSign, int newAt) {
            for (int p = 0; p < PROCS; p++) {
                for (int g = 0; g < 8; g++) {
                    if (sign[p][g] == oldSign && at[p][g] == oldAt) {
                        sign[p][g] = newSign;
                        at[p][g] = newAt;
                    }
                }
            }
        }

        private int waitFor(int newSign, int number) {
            waitSign = newSign;
            waitNumber = number;
            return MUST_WAIT;
        }

        private int freeBlock() {
            for (int b = Drive.FIRST_SWAP; b < Drive.BLOCKS; b++) {
                boolean used = false;
                for (int f = 0; f < FRAMES; f++) {
                    used |= phase[f] != UNUSED && block[f] == b;
                }
                for (int p = 0; p < PROCS && !used; p++) {
                    for (int g = 0; g < 8; g++) {
                        used |= sign[p][g] == 's' && at[p][g] == b;
                    }
                }
                if (!used) {
                    return b;
                }
            }
            return -1;
        }

        /** A frame to be taken; the one that is to be copied does not go for it. */
        private int need(int copied) {
            int oldest = -1;
            for (int f = 0; f < FRAMES; f++) {
                if (phase[f] == UNUSED) {
                    return f;
                }
                if (phase[f] == USED && f != copied && (oldest < 0 || age[f] < age[oldest])) {
                    oldest = f;
                }
            }
            if (oldest < 0) {
                return waitFor('r', 0);
            }
            int b = clean[oldest] ? block[oldest] : freeBlock();
            if (b < 0) {
                return NO_BLOCK;
            }
            machine.world.note(machine.number, 'o', oldest);
            if (clean[oldest]) {
                movePages('f', oldest, 's', b);
                return oldest;
            }
            block[oldest] = b;
            phase[oldest] = GOES;
            movePages('f', oldest, 'o', oldest);
            machine.drive.ask(b, Drive.PAGE_OUT, oldest, cells[oldest]);
            return waitFor('r', 0);
        }

        /** The frame in which a page is then, ready to be used; otherwise why not. */
        int use(int p, int page, boolean isStore) {
            int f = at[p][page];
            switch (sign[p][page]) {
                case 'n':
                    if (countThere(p) >= machine.procs[p].limit) {
                        return NOT_THERE;
                    }
                    f = need(-1);
                    if (f < 0) {
                        return f;
                    }
                    take(f, USED, -1);
                    Arrays.fill(cells[f], 0);
                    sign[p][page] = 'f';
                    at[p][page] = f;
                    break;
                case 's':
                    f = need(-1);
                    return f < 0 ? f : fetch(p, at[p][page], f);
                case 'f':
                    if (isStore && countPages(f) > 1) {
                        f = copy(p, page, f);
                        if (f < 0) {
                            return f;
                        }
                    }
                    break;
                default:
                    return waitFor('d', f);
            }
            marked[f] = true;
            if (isStore) {
                clean[f] = false;
                block[f] = -1;
            }
            return f;
        }

        private int countThere(int p) {
            int count = 0;
            for (int g = 0; g < 8; g++) {
                count += sign[p][g] != 'n' && sign[p][g] != 'm' ? 1 : 0;
            }
            return count;
        }

        private int fetch(int p, int b, int f) {
            take(f, COMES, b);
            movePages('s', b, 'c', f);
            machine.world.note(machine.number, 'f', f);
            machine.accounts[machine.procs[p].user * Machine.COUNTS + Machine.READS]++;
            machine.drive.ask(b, Drive.PAGE_IN, f, null);
            return waitFor('d', f);
        }

        private int copy(int p, int page, int from) {
            int f = need(from);
            if (f < 0) {
                return f;
            }
            take(f, USED, -1);
            System.arraycopy(cells[from], 0, cells[f], 0, 8);
            sign[p][page] = 'f';
            at[p][page] = f;
            return f;
        }

        void hasCome(int f) {
            System.arraycopy(machine.drive.cells[block[f]], 0, cells[f], 0, 8);
            phase[f] = USED;
            age[f] = 128;
            clean[f] = true;
            movePages('c', f, 'f', f);
            machine.wake('d', f);
            freeIfLeft(f);
        }

        void hasGone(int f) {
            movePages('o', f, 's', block[f]);
            makeUnused(f);
            machine.wake('d', f);
            machine.wake('r', 0);
        }

        private void freeIfLeft(int f) {
            if (phase[f] == USED && countPages(f) == 0) {
                makeUnused(f);
                machine.wake('r', 0);
            }
        }

        void dropPages(int p) {
            for (int g = 0; g < 8; g++) {
                int s = sign[p][g];
                sign[p][g] = 'n';
                if (isInFrame(s)) {
                    freeIfLeft(at[p][g]);
                }
            }
        }

        /** By 20 the new process has its pages where the other one has its own. */
        void share(int from, int to) {
            System.arraycopy(sign[from], 0, sign[to], 0, 8);
            System.arraycopy(at[from], 0, at[to], 0, 8);
        }

        void grow() {
            for (int f = 0; f < FRAMES; f++) {
                if (phase[f] != UNUSED) {
                    age[f] = age[f] / 2 + (marked[f] ? 128 : 0);
                    marked[f] = false;
                }
            }
        }

        int tellOfFrame(int f, char what) {
            switch (what) {
                case 'a': return age[f];
                case 'p': return countPages(f);
                case 'b': return block[f];
                case 'c': return clean[f] ? 1 : 0;
                default: return phase[f] == COMES ? 1 : phase[f] == GOES ? 2 : 0;
            }
        }

        int look(int p, int address) {
            int page = address / 8;
            int cell = address % 8;
            int place = at[p][page];
            switch (sign[p][page]) {
                case 'f':
                case 'o': return cells[place][cell];
                case 'c': return machine.drive.cells[block[place]][cell];
                case 's': return machine.drive.cells[place][cell];
                case 'm': return machine.store.cellAt(place / 100, place % 100 * 8 + cell);
                default: return 0;
            }
        }

        boolean maps(int inode) {
            for (int p = 0; p < PROCS; p++) {
                for (int g = 0; g < 8; g++) {
                    if (sign[p][g] == 'm' && at[p][g] / 100 == inode) {
                        return true;
                    }
                }
            }
            return false;
        }

        boolean isInOrder() {
            for (int p = 0; p < PROCS; p++) {
                for (int g = 0; g < 8; g++) {
                    if (isInFrame(sign[p][g]) && phase[at[p][g]] == UNUSED) {
                        return false;
                    }
                }
            }
            for (int f = 0; f < FRAMES; f++) {
                if (phase[f] == USED && countPages(f) == 0) {
                    return false;
                }
            }
            return true;
        }
    }

    /** The disc of a machine, with its arm and what it is asked for, and the log on it. */
    private static final class Drive {
        static final int BLOCKS = 82;
        static final int MOST_IN_LOG = 8;
        static final int FIRST_SWAP = 70;
        static final int MOST_ASKED = 80;

        // What a block is read or written for.
        static final int FILE_READ = 1;
        static final int PAGE_IN = 2;
        static final int PAGE_OUT = 3;
        static final int LOG_BLOCK = 4;
        static final int RECORD = 5;
        static final int PLACE = 6;
        static final int RECORD_ANEW = 7;

        final Machine machine;
        final int[][] cells = new int[BLOCKS][8];
        int arm;
        // What is asked, in this order: the block, what for, the frame; and the cells to be written.
        final int[][] asked = new int[MOST_ASKED][3];
        final int[][] written = new int[MOST_ASKED][8];
        int askedCount;
        // What was begun, and how many ticks it has left.
        final int[] begun = new int[3];
        final int[] begunCells = new int[8];
        int left;
        // The blocks of the transaction that is open, or closed and not installed.
        final boolean[] member = new boolean[Store.BLOCKS];
        int memberCount;
        // Whether a command found no room in the open transaction, which closes then.
        boolean isFull;
        int given;
        int safe;
        int phase;
        int writesLeft;
        final int[] record = new int[8];
        // What the disc should have behind a start.
        final int[][] proof = new int[Store.BLOCKS][8];
        boolean whole;
        boolean spoiled;

        Drive(Machine machine) {
            this.machine = machine;
        }

        void format() {
            whole = true;
            spoiled = false;
            given = 0;
            safe = 0;
            for (int b = 0; b < BLOCKS; b++) {
                Arrays.fill(cells[b], 0);
            }
            cells[0][2] = 1;
            cells[0][3] = 100;
            cells[10][0] = 2;
            cells[10][1] = 493;
            cells[10][3] = 1;
            Store.copyBlocks(cells, proof);
        }

        void clear() {
            arm = 0;
            askedCount = 0;
            left = 0;
            phase = 0;
            memberCount = 0;
            isFull = false;
            for (int b = 0; b < member.length; b++) {
                member[b] = false;
            }
        }

        private static boolean isWrite(int purpose) {
            return purpose != FILE_READ && purpose != PAGE_IN;
        }

        void ask(int block, int purpose, int frame, int[] data) {
            if (askedCount >= MOST_ASKED) {
                return;
            }
            asked[askedCount][0] = block;
            asked[askedCount][1] = purpose;
            asked[askedCount][2] = frame;
            if (data != null) {
                System.arraycopy(data, 0, written[askedCount], 0, 8);
            }
            askedCount++;
        }

        boolean isAskedToRead(int block) {
            if (left > 0 && begun[0] == block && begun[1] == FILE_READ) {
                return true;
            }
            for (int i = 0; i < askedCount; i++) {
                if (asked[i][0] == block && asked[i][1] == FILE_READ) {
                    return true;
                }
            }
            return false;
        }

        private int next() {
            int ahead = -1;
            int least = -1;
            for (int i = 0; i < askedCount; i++) {
                int b = asked[i][0];
                if (b >= arm && (ahead < 0 || b < asked[ahead][0])) {
                    ahead = i;
                }
                if (least < 0 || b < asked[least][0]) {
                    least = i;
                }
            }
            return ahead >= 0 ? ahead : least;
        }

        void turn() {
            if (left > 0) {
                left--;
                if (left == 0) {
                    finish();
                }
                return;
            }
            int i = next();
            if (i < 0) {
                return;
            }
            int[] row = asked[i];
            int[] data = written[i];
            System.arraycopy(row, 0, begun, 0, 3);
            System.arraycopy(data, 0, begunCells, 0, 8);
            for (int n = i; n + 1 < askedCount; n++) {
                asked[n] = asked[n + 1];
                written[n] = written[n + 1];
            }
            askedCount--;
            asked[askedCount] = row;
            written[askedCount] = data;
            left = 2 + Math.abs(begun[0] - arm) / 10;
            arm = begun[0];
        }

        private void finish() {
            int b = begun[0];
            if (isWrite(begun[1])) {
                System.arraycopy(begunCells, 0, cells[b], 0, 8);
            }
            switch (begun[1]) {
                case FILE_READ: machine.store.hasCome(b); break;
                case PAGE_IN: machine.memory.hasCome(begun[2]); break;
                case PAGE_OUT: machine.memory.hasGone(begun[2]); break;
                default: hasWritten(begun[1]); break;
            }
        }

        // ---- the log ----

        void closeIfFull() {
            if (isFull) {
                isFull = false;
                closeIfOpen();
            }
        }

        void closeIfOpen() {
            if (phase != 0 || memberCount == 0) {
                return;
            }
            phase = 1;
            writesLeft = memberCount;
            machine.world.note(machine.number, 'c', given);
            int slot = 2;
            for (int b = 0; b < member.length; b++) {
                if (member[b]) {
                    ask(slot, LOG_BLOCK, 0, machine.store.mem[b]);
                    slot++;
                }
            }
        }

        private void askForRecord(int purpose) {
            Arrays.fill(record, 0);
            record[0] = given;
            if (purpose == RECORD) {
                record[1] = memberCount;
                int n = 0;
                for (int b = 0; b < member.length; b++) {
                    if (member[b] && n < MOST_IN_LOG) {
                        record[2 + n / 2] = n % 2 == 0 ? 100 * b + 99 : record[2 + n / 2] - 99 + b;
                        n++;
                    }
                }
            }
            ask(1, purpose, 0, record);
        }

        private void hasWritten(int purpose) {
            switch (purpose) {
                case LOG_BLOCK:
                    writesLeft--;
                    if (writesLeft == 0) {
                        phase = 2;
                        askForRecord(RECORD);
                    }
                    break;
                case RECORD: becomeSafe(); break;
                case PLACE:
                    writesLeft--;
                    if (writesLeft == 0) {
                        becomeInstalled();
                    }
                    break;
                default:
                    phase = 0;
                    machine.wake('g', 0);
                    break;
            }
        }

        private void becomeSafe() {
            phase = 3;
            safe = given;
            writesLeft = memberCount;
            machine.world.note(machine.number, 'd', given);
            machine.wake('s', given);
            for (int b = 0; b < member.length; b++) {
                if (member[b]) {
                    System.arraycopy(machine.store.mem[b], 0, proof[b], 0, 8);
                    ask(b, PLACE, 0, machine.store.mem[b]);
                }
            }
        }

        private void becomeInstalled() {
            machine.world.note(machine.number, 'i', given);
            for (int b = 0; b < member.length; b++) {
                member[b] = false;
            }
            memberCount = 0;
            phase = 4;
            machine.store.dropHeld();
            askForRecord(RECORD_ANEW);
        }

        /** Writes the log to its places, if it tells of a transaction: how many blocks these are. */
        int recover() {
            int[] told = cells[1];
            int count = isTold(told) ? told[1] : 0;
            for (int n = 0; n < count; n++) {
                System.arraycopy(cells[2 + n], 0, cells[toldBlock(told, n)], 0, 8);
            }
            for (int n = 1; n < 8 && count > 0; n++) {
                told[n] = 0;
            }
            given = told[0] < 0 || told[0] > 999999 ? 0 : told[0];
            safe = given;
            return count;
        }

        /** Finds whether the disc is as it should be behind a start; it is so for the next start then. */
        void prove() {
            whole = true;
            for (int b = 0; b < proof.length; b++) {
                for (int n = 0; n < 8 && (b == 0 || b >= 10); n++) {
                    whole &= cells[b][n] == proof[b][n];
                }
            }
            Store.copyBlocks(cells, proof);
        }

        private static int toldBlock(int[] told, int n) {
            int v = told[2 + n / 2];
            return n % 2 == 0 ? v / 100 : v % 100;
        }

        private static boolean isTold(int[] told) {
            if (told[1] < 1 || told[1] > MOST_IN_LOG) {
                return false;
            }
            for (int n = 0; n < told[1]; n++) {
                int b = toldBlock(told, n);
                if (told[2 + n / 2] < 0 || b >= Store.BLOCKS || (b != 0 && b < 10)) {
                    return false;
                }
            }
            return true;
        }

        int tellOf(char what) {
            switch (what) {
                case 'a': return arm;
                case 'q': return askedCount;
                case 'l': return left;
                default: return left > 0 ? begun[0] : -1;
            }
        }
    }

    /** The files of a machine as it holds them. */
    private static final class Store {
        static final int BLOCKS = 70;
        static final int INODES = 20;
        static final int MOST_HELD = 8;
        static final int MOST_IN_LOG = 8;
        static final int LONGEST = 80;

        // How a walk treats its last name.
        static final int STOP_AT_LINK = 0;
        static final int FOLLOW = 1;
        static final int TO_PLACE = 2;

        static final int MODE = 1;
        static final int OWNER = 2;
        static final int NAMES = 3;
        static final int SIZE = 4;
        static final int NUMBERS = 7;

        static final int READ = 4;
        static final int WRITE = 2;
        static final int LOOK = 1;

        final Machine machine;
        // The cells as the machine holds them, and as they are without the command that is being done.
        final int[][] mem = new int[BLOCKS][8];
        final int[][] base = new int[BLOCKS][8];
        final boolean[] touched = new boolean[BLOCKS];
        final boolean[] changed = new boolean[BLOCKS];
        boolean anyTouched;
        // The blocks of files that are held, and when each was used last.
        final boolean[] holds = new boolean[BLOCKS];
        final int[] usedAt = new int[BLOCKS];
        int uses;
        int fresh;
        int waitSign;
        int waitNumber;
        // The names that a walk has ahead, the next one last.
        final int[] names = new int[64];
        int nameCount;
        int placeOfEntry;
        // What the cells of the map, and the names of inodes, should be, and how many faults were found.
        final int[] due = new int[INODES];
        int foundCount;

        Store(Machine machine) {
            this.machine = machine;
        }

        static void copyBlocks(int[][] from, int[][] to) {
            for (int b = 0; b < BLOCKS; b++) {
                System.arraycopy(from[b], 0, to[b], 0, 8);
            }
        }

        /** All is as on the disc. */
        void forget() {
            copyBlocks(machine.drive.cells, mem);
            copyBlocks(mem, base);
            Arrays.fill(usedAt, 0);
            uses = 0;
            for (int b = 0; b < BLOCKS; b++) {
                touched[b] = false;
                holds[b] = false;
            }
            anyTouched = false;
            fresh = 0;
            waitSign = 0;
        }

        // ---- inodes ----

        int kindOf(int i) {
            int k = mem[10 + i][0];
            if (i == 0) {
                return 2;
            }
            return k >= 1 && k <= 3 ? k : 0;
        }

        int sizeOf(int i) {
            return Math.max(0, Math.min(LONGEST, mem[10 + i][SIZE]));
        }

        /** The owner of an inode, -1 for nobody. */
        int ownerOf(int i) {
            int v = mem[10 + i][OWNER];
            return v < 0 || v > 49 ? -1 : v / 10;
        }

        /** The number of the block at a place in a file, from 0; 0 without one. */
        int blockOf(int i, int index) {
            int b = 0;
            if (index < 2) {
                b = mem[10 + i][5 + index];
            } else {
                int n = mem[10 + i][NUMBERS];
                b = n >= 30 && n < BLOCKS ? mem[n][index - 2] : 0;
            }
            return b >= 30 && b < BLOCKS ? b : 0;
        }

        int numbersOf(int i) {
            int b = mem[10 + i][NUMBERS];
            return b >= 30 && b < BLOCKS ? b : 0;
        }

        int countBlocks(int i) {
            int count = numbersOf(i) > 0 ? 1 : 0;
            for (int n = 0; n < 10; n++) {
                count += blockOf(i, n) > 0 ? 1 : 0;
            }
            return count;
        }

        int cellOf(int i, int index) {
            int b = 0;
            if (index >= 0 && index < 16) {
                b = mem[10 + i][5 + index / 8];
            } else if (index >= 16 && index < LONGEST) {
                int n = mem[10 + i][NUMBERS];
                b = n >= 30 && n < BLOCKS ? mem[n][index / 8 - 2] : 0;
            }
            return b >= 30 && b < BLOCKS ? mem[b][index % 8] : 0;
        }

        /** A cell of a file, 0 beyond its end. */
        int cellAt(int i, int index) {
            return index < sizeOf(i) ? cellOf(i, index) : 0;
        }

        boolean may(int user, int i, int bits) {
            if (user == 0) {
                return true;
            }
            int v = mem[10 + i][OWNER];
            int mode = mem[10 + i][MODE] & 511;
            int groups = machine.world.users[user][0] | 1 << user % 3;
            if (v >= 0 && v <= 49 && v / 10 == user) {
                mode >>= 6;
            } else if (v >= 0 && v <= 49 && (groups >> v % 10 & 1) != 0) {
                mode >>= 3;
            }
            return (mode & bits) == bits;
        }

        /** The file that has a block, -1 for none. */
        int fileOf(int block) {
            for (int i = 1; i < INODES; i++) {
                if (kindOf(i) == 1) {
                    for (int n = 0; n < 10; n++) {
                        if (blockOf(i, n) == block) {
                            return i;
                        }
                    }
                }
            }
            return -1;
        }

        private boolean isGoodEntry(int v) {
            int i = v / 100;
            return v % 100 >= 1 && v % 100 <= 26 && i >= 1 && i < INODES
                    && mem[10 + i][0] >= 1 && mem[10 + i][0] <= 3;
        }

        /** Where a directory has an entry, -1 if it has none. */
        private int entryAt(int directory, int name) {
            int size = Math.min(LONGEST, mem[10 + directory][SIZE]);
            for (int n = 0; n < size; n++) {
                int b = 0;
                if (n < 16) {
                    b = mem[10 + directory][5 + n / 8];
                } else {
                    int numbers = mem[10 + directory][NUMBERS];
                    b = numbers >= 30 && numbers < BLOCKS ? mem[numbers][n / 8 - 2] : 0;
                }
                int v = b >= 30 && b < BLOCKS ? mem[b][n % 8] : 0;
                int i = v / 100;
                if (v % 100 == name && i >= 1 && i < INODES && mem[10 + i][0] >= 1 && mem[10 + i][0] <= 3) {
                    return n;
                }
            }
            return -1;
        }

        private boolean hasEntries(int directory) {
            int size = sizeOf(directory);
            for (int n = 0; n < size; n++) {
                if (isGoodEntry(cellOf(directory, n))) {
                    return true;
                }
            }
            return false;
        }

        // ---- paths ----

        private boolean pushNames(int path) {
            if (path == Integer.MIN_VALUE) {
                return false;
            }
            int rest = Math.abs(path);
            for (int i = 0; i < 7 && rest > 0; i++) {
                if (rest % 27 == 0 || nameCount >= names.length) {
                    return false;
                }
                names[nameCount] = rest % 27;
                nameCount++;
                rest /= 27;
            }
            return true;
        }

        /** Walks; to the place of a path it goes without its last name, which is then the first of the names. */
        int lead(int path, int directory, int user, int manner) {
            nameCount = 0;
            if (!pushNames(path)) {
                return INVALID;
            }
            int stop = manner == TO_PLACE ? 1 : 0;
            if (nameCount < stop) {
                return INVALID;
            }
            int at = path < 0 ? directory : 0;
            int followed = 0;
            for (int i = 0; i < 100 && nameCount > stop; i++) {
                if (kindOf(at) != 2) {
                    return NO_DIRECTORY;
                }
                if (!may(user, at, LOOK)) {
                    return NOT_ALLOWED;
                }
                nameCount--;
                int n = entryAt(at, names[nameCount]);
                if (n < 0) {
                    return NO_ENTRY;
                }
                int next = cellOf(at, n) / 100;
                if (kindOf(next) != 3 || (nameCount == 0 && manner == STOP_AT_LINK)) {
                    at = next;
                    continue;
                }
                followed++;
                if (followed >= 5) {
                    return LINK_LOOP;
                }
                int to = mem[10 + next][SIZE];
                at = to < 0 ? at : 0;
                if (!pushNames(to)) {
                    return INVALID;
                }
            }
            if (manner == TO_PLACE) {
                return kindOf(at) != 2 ? NO_DIRECTORY : mem[10 + at][NAMES] == 0 ? NO_ENTRY : at;
            }
            return at;
        }

        // ---- changes of cells ----

        private void put(int block, int cell, int value) {
            if (mem[block][cell] != value) {
                mem[block][cell] = value;
                touched[block] = true;
                anyTouched = true;
            }
        }

        private int refuse(int error) {
            if (anyTouched) {
                for (int b = 0; b < BLOCKS; b++) {
                    if (touched[b]) {
                        System.arraycopy(base[b], 0, mem[b], 0, 8);
                        touched[b] = false;
                    }
                }
                anyTouched = false;
            }
            fresh = 0;
            return error;
        }

        int waitFor(int sign, int number) {
            waitSign = sign;
            waitNumber = number;
            return 0;
        }

        private boolean differs(int b) {
            for (int i = 0; i < 8; i++) {
                if (mem[b][i] != base[b][i]) {
                    return true;
                }
            }
            return false;
        }

        /** Ends a command: its changes come to the open transaction, otherwise it waits. */
        private int commit(int answer) {
            Drive drive = machine.drive;
            waitSign = 0;
            int more = 0;
            boolean some = false;
            for (int b = 0; b < BLOCKS && anyTouched; b++) {
                changed[b] = touched[b] && differs(b);
                some |= changed[b];
                more += changed[b] && !drive.member[b] ? 1 : 0;
            }
            if (some && (drive.phase != 0 || drive.memberCount + more > Drive.MOST_IN_LOG)) {
                drive.isFull = drive.phase == 0;
                refuse(0);
                return waitFor('g', 0);
            }
            if (some) {
                drive.given += drive.memberCount == 0 ? 1 : 0;
                drive.memberCount += more;
                for (int b = 0; b < BLOCKS; b++) {
                    if (changed[b]) {
                        drive.member[b] = true;
                        System.arraycopy(mem[b], 0, base[b], 0, 8);
                    }
                    holds[b] &= isUsed(b);
                }
            }
            for (int b = 0; b < BLOCKS && anyTouched; b++) {
                touched[b] = false;
            }
            anyTouched = false;
            if (fresh > 0) {
                holds[fresh] = true;
                useBlock(fresh);
                fresh = 0;
                dropHeld();
            }
            return answer;
        }

        private boolean isUsed(int b) {
            return b >= 30 && (mem[0][b < 60 ? 0 : 1] >> (b < 60 ? b - 30 : b - 60) & 1) != 0;
        }

        /** A block for the cell of an inode or of a block with numbers: its number, or why there is none. */
        private int takeBlock(int owner, int block, int cell) {
            if (owner > 0 && mem[0][3 + owner] % 100 + 1 > machine.world.users[owner][2]) {
                return OVER_QUOTA;
            }
            int b = 30;
            while (b < BLOCKS && (mem[0][b < 60 ? 0 : 1] >> (b < 60 ? b - 30 : b - 60) & 1) != 0) {
                b++;
            }
            if (b >= BLOCKS) {
                return DISC_FULL;
            }
            mem[0][b < 60 ? 0 : 1] |= 1 << (b < 60 ? b - 30 : b - 60);
            if (owner >= 0) {
                mem[0][3 + owner]++;
            }
            Arrays.fill(mem[b], 0);
            mem[block][cell] = b;
            touched[0] = true;
            touched[b] = true;
            touched[block] = true;
            anyTouched = true;
            return b;
        }

        /** The block at a place in a file, taken if there is none; or why not. */
        private int needBlock(int i, int index) {
            int b = blockOf(i, index);
            if (b > 0) {
                return b;
            }
            int owner = ownerOf(i);
            int at = 10 + i;
            if (index >= 2) {
                at = numbersOf(i);
                at = at > 0 ? at : takeBlock(owner, 10 + i, NUMBERS);
            }
            if (at < 0) {
                return at;
            }
            b = takeBlock(owner, at, index < 2 ? 5 + index : index - 2);
            fresh = b > 0 && kindOf(i) == 1 ? b : 0;
            return b;
        }

        /** Frees the blocks of a file from a place on; the one with numbers if it has none then. */
        private void freeFrom(int i, int first) {
            int owner = ownerOf(i);
            int numbers = numbersOf(i);
            int kept = 0;
            for (int n = 2; n < first; n++) {
                kept += blockOf(i, n) > 0 ? 1 : 0;
            }
            for (int n = first; n < 11; n++) {
                int block = n < 2 || n == 10 ? 10 + i : numbers;
                int cell = n < 2 ? 5 + n : n == 10 ? NUMBERS : n - 2;
                int b = n == 10 ? numbers : blockOf(i, n);
                if (b == 0 || (n == 10 && kept > 0)) {
                    continue;
                }
                int map = b < 60 ? 0 : 1;
                put(block, cell, 0);
                put(0, map, mem[0][map] & ~(1 << (b < 60 ? b - 30 : b - 60)));
                if (owner >= 0) {
                    put(0, 3 + owner, mem[0][3 + owner] - 1);
                }
            }
        }

        // ---- blocks of files that are held ----

        private void useBlock(int b) {
            if (b > 0) {
                uses++;
                usedAt[b] = uses;
            }
        }

        void dropHeld() {
            int count = 0;
            for (int b = 30; b < BLOCKS; b++) {
                count += holds[b] ? 1 : 0;
            }
            for (int round = 0; round < BLOCKS && count > MOST_HELD; round++) {
                int oldest = -1;
                for (int b = 30; b < BLOCKS; b++) {
                    if (holds[b] && !machine.drive.member[b] && (oldest < 0 || usedAt[b] < usedAt[oldest])) {
                        oldest = b;
                    }
                }
                if (oldest < 0) {
                    return;
                }
                holds[oldest] = false;
                count--;
            }
        }

        /** Asks the disc for a block of a file, for a user, or for the server, which is -1. */
        void askFor(int b, int user) {
            if (!machine.drive.isAskedToRead(b)) {
                machine.drive.ask(b, Drive.FILE_READ, 0, null);
                if (user >= 0) {
                    machine.accounts[user * Machine.COUNTS + Machine.READS]++;
                }
            }
            waitFor('b', b);
        }

        void hasCome(int b) {
            if (fileOf(b) >= 0) {
                holds[b] = true;
                useBlock(b);
                dropHeld();
            }
            machine.wake('b', b);
        }

        // ---- commands on files ----

        /** Reads a cell of a file, 0 beyond its end; it may have to wait. */
        int readCell(int i, int index, int user) {
            waitSign = 0;
            if (index < 0 || index >= sizeOf(i)) {
                return 0;
            }
            int b = blockOf(i, index / 8);
            if (b > 0 && !holds[b]) {
                askFor(b, user);
                return 0;
            }
            useBlock(b);
            return cellOf(i, index);
        }

        /** Writes a cell of a file for a user of a machine; the user is -1 for the server. */
        int writeCell(int i, int index, int value, int user, int asker) {
            waitSign = 0;
            if (index < 0 || index >= LONGEST) {
                return TOO_BIG;
            }
            if (machine.net.mustWait(i, asker)) {
                return 0;
            }
            int b = blockOf(i, index / 8);
            if (b == 0) {
                b = needBlock(i, index / 8);
                if (b < 0) {
                    return refuse(b);
                }
            } else if (!holds[b]) {
                askFor(b, user);
                return 0;
            }
            put(b, index % 8, value);
            if (sizeOf(i) <= index) {
                put(10 + i, SIZE, index + 1);
            }
            int answer = commit(1);
            if (waitSign == 0) {
                useBlock(b);
            }
            return answer;
        }

        int cutFile(int i) {
            waitSign = 0;
            if (machine.net.mustWait(i, machine.number)) {
                return 0;
            }
            freeFrom(i, 0);
            put(10 + i, SIZE, 0);
            return commit(0);
        }

        int setLength(int path, int directory, int user, int length) {
            waitSign = 0;
            if (length < 0 || length > LONGEST) {
                return INVALID;
            }
            int i = lead(path, directory, user, FOLLOW);
            if (i < 0) {
                return i;
            }
            if (kindOf(i) == 2) {
                return IS_DIRECTORY;
            }
            if (!may(user, i, WRITE)) {
                return NOT_ALLOWED;
            }
            if (machine.net.mustWait(i, machine.number)) {
                return 0;
            }
            int last = length < sizeOf(i) && length % 8 != 0 ? blockOf(i, length / 8) : 0;
            if (last > 0 && !holds[last]) {
                askFor(last, user);
                return 0;
            }
            for (int n = length % 8; n < 8 && last > 0; n++) {
                put(last, n, 0);
            }
            freeFrom(i, (length + 7) / 8);
            put(10 + i, SIZE, length);
            int answer = commit(0);
            if (waitSign == 0) {
                useBlock(last);
            }
            return answer;
        }

        /** A new inode for the place of a path, without its entry: its number, or why not. */
        int makeInode(int path, Proc p, int kind, int mode, int size) {
            int user = p.user;
            waitSign = 0;
            int place = lead(path, p.directory, user, TO_PLACE);
            if (place < 0) {
                return place;
            }
            if (entryAt(place, names[0]) >= 0) {
                return EXISTS;
            }
            if (!may(user, place, WRITE | LOOK)) {
                return NOT_ALLOWED;
            }
            if (user > 0 && mem[0][3 + user] / 100 + 1 > machine.world.users[user][3]) {
                return OVER_QUOTA;
            }
            int i = 1;
            while (i < INODES && (mem[0][2] >> i & 1) != 0) {
                i++;
            }
            if (i >= INODES) {
                return DISC_FULL;
            }
            put(0, 2, mem[0][2] | 1 << i);
            put(0, 3 + user, mem[0][3 + user] + 100);
            put(10 + i, 0, kind);
            put(10 + i, MODE, mode);
            put(10 + i, OWNER, 10 * user + user % 3);
            put(10 + i, NAMES, 1);
            put(10 + i, SIZE, size);
            for (int n = 5; n < 8; n++) {
                put(10 + i, n, 0);
            }
            placeOfEntry = place;
            return i;
        }

        /** Puts an entry of an inode into the place that was found for it: 0, or why not. */
        int putEntry(int i) {
            if (i < 0) {
                return i;
            }
            int size = sizeOf(placeOfEntry);
            int at = 0;
            while (at < size && cellOf(placeOfEntry, at) != 0) {
                at++;
            }
            if (at >= LONGEST) {
                return TOO_BIG;
            }
            int b = needBlock(placeOfEntry, at / 8);
            if (b < 0) {
                return b;
            }
            put(b, at % 8, 100 * i + names[0]);
            if (at == size) {
                put(10 + placeOfEntry, SIZE, size + 1);
            }
            return 0;
        }

        /** Ends a command that came so far, or could not. */
        int endCommand(int error) {
            return error < 0 ? refuse(error) : commit(0);
        }

        private void putCell(int i, int index, int value) {
            int b = blockOf(i, index / 8);
            if (b > 0) {
                put(b, index % 8, value);
            }
        }

        int remove(int path, int directory, int user) {
            waitSign = 0;
            int place = lead(path, directory, user, TO_PLACE);
            if (place < 0) {
                return place;
            }
            int at = entryAt(place, names[0]);
            if (at < 0) {
                return NO_ENTRY;
            }
            if (!may(user, place, WRITE | LOOK)) {
                return NOT_ALLOWED;
            }
            int i = cellOf(place, at) / 100;
            if (kindOf(i) == 2 && hasEntries(i)) {
                return NOT_EMPTY;
            }
            putCell(place, at, 0);
            put(10 + i, NAMES, mem[10 + i][NAMES] - 1);
            return commit(0);
        }

        int addName(int path, int other, int directory, int user) {
            waitSign = 0;
            int i = lead(path, directory, user, STOP_AT_LINK);
            if (i < 0) {
                return i;
            }
            if (kindOf(i) == 2) {
                return NOT_ALLOWED;
            }
            int place = lead(other, directory, user, TO_PLACE);
            if (place < 0) {
                return place;
            }
            if (entryAt(place, names[0]) >= 0) {
                return EXISTS;
            }
            if (!may(user, place, WRITE | LOOK)) {
                return NOT_ALLOWED;
            }
            put(10 + i, NAMES, mem[10 + i][NAMES] + 1);
            placeOfEntry = place;
            return endCommand(putEntry(i));
        }

        int rename(int path, int other, int directory, int user) {
            waitSign = 0;
            int from = lead(path, directory, user, TO_PLACE);
            if (from < 0) {
                return from;
            }
            int at = entryAt(from, names[0]);
            if (at < 0) {
                return NO_ENTRY;
            }
            if (!may(user, from, WRITE | LOOK)) {
                return NOT_ALLOWED;
            }
            int i = cellOf(from, at) / 100;
            int to = lead(other, directory, user, TO_PLACE);
            if (to < 0) {
                return to;
            }
            if (!may(user, to, WRITE | LOOK)) {
                return NOT_ALLOWED;
            }
            if (kindOf(i) == 2 && isIn(to, i)) {
                return INVALID;
            }
            int name = names[0];
            int there = entryAt(to, name);
            placeOfEntry = to;
            int error = there >= 0 ? replace(to, there, i, name) : putEntry(i);
            if (error == 0) {
                putCell(from, at, 0);
            }
            return endCommand(error);
        }

        /** Puts an inode in place of what an entry has: 0, or 1 if it is the same, or why not. */
        private int replace(int place, int at, int i, int name) {
            int old = cellOf(place, at) / 100;
            if (old == i) {
                return 1;
            }
            boolean isDirectory = kindOf(i) == 2;
            if (kindOf(old) == 2 && !isDirectory) {
                return IS_DIRECTORY;
            }
            if (kindOf(old) != 2 && isDirectory) {
                return NO_DIRECTORY;
            }
            if (isDirectory && hasEntries(old)) {
                return NOT_EMPTY;
            }
            put(10 + old, NAMES, mem[10 + old][NAMES] - 1);
            putCell(place, at, 100 * i + name);
            return 0;
        }

        /** Whether a directory is another one, or somewhere in it. */
        private boolean isIn(int directory, int outer) {
            int seen = 1 << outer;
            for (int round = 0; round < INODES; round++) {
                for (int i = 0; i < INODES; i++) {
                    if ((seen >> i & 1) == 0 || kindOf(i) != 2) {
                        continue;
                    }
                    int size = sizeOf(i);
                    for (int n = 0; n < size; n++) {
                        int v = cellOf(i, n);
                        seen |= isGoodEntry(v) ? 1 << v / 100 : 0;
                    }
                }
            }
            return (seen >> directory & 1) != 0;
        }

        int setMode(int path, int directory, int user, int mode) {
            waitSign = 0;
            if (mode < 0 || mode > 511) {
                return INVALID;
            }
            int i = lead(path, directory, user, FOLLOW);
            if (i < 0) {
                return i;
            }
            if (user != 0 && ownerOf(i) != user) {
                return NOT_ALLOWED;
            }
            put(10 + i, MODE, mode);
            return commit(0);
        }

        int setOwner(int path, int directory, int user, int owner) {
            waitSign = 0;
            if (owner < 0 || owner / 10 >= USERS || owner % 10 > 2) {
                return INVALID;
            }
            int i = lead(path, directory, user, FOLLOW);
            if (i < 0) {
                return i;
            }
            if (user != 0) {
                return NOT_ALLOWED;
            }
            int amount = 100 + countBlocks(i);
            int before = ownerOf(i);
            if (before >= 0) {
                put(0, 3 + before, mem[0][3 + before] - amount);
            }
            put(10 + i, OWNER, owner);
            put(0, 3 + owner / 10, mem[0][3 + owner / 10] + amount);
            return commit(0);
        }

        private boolean isUsedInode(int i) {
            for (int p = 0; p < PROCS; p++) {
                if (machine.procs[p].state != FREE && machine.procs[p].directory == i) {
                    return true;
                }
            }
            return machine.files.hasOpen(i) || machine.memory.maps(i);
        }

        /** The first inode without a name that nobody uses is given up. */
        void giveUpOne() {
            if (machine.drive.phase != 0) {
                return;
            }
            for (int i = 1; i < INODES; i++) {
                if (kindOf(i) != 0 && mem[10 + i][NAMES] == 0 && !isUsedInode(i)) {
                    if (kindOf(i) != 3) {
                        freeFrom(i, 0);
                    }
                    int owner = ownerOf(i);
                    put(0, 2, mem[0][2] & ~(1 << i));
                    if (owner >= 0) {
                        put(0, 3 + owner, mem[0][3 + owner] - 100);
                    }
                    for (int n = 0; n < 8; n++) {
                        put(10 + i, n, 0);
                    }
                    commit(0);
                    return;
                }
            }
        }

        // ---- faults ----

        private void addFault(int sign, int number, int block, int cell, int value) {
            if (foundCount < World.FOUND) {
                int at = foundCount * World.FOUND_WIDTH;
                int[] found = machine.world.found;
                found[at] = sign;
                found[at + 1] = number;
                found[at + 2] = block;
                found[at + 3] = cell;
                found[at + 4] = value;
                foundCount++;
            }
        }

        /** Finds all faults, in their order: how many there are. */
        int scan() {
            foundCount = 0;
            for (int i = 0; i < INODES; i++) {
                int k = mem[10 + i][0];
                if (i == 0 ? k != 2 : k < 0 || k > 3) {
                    addFault('k', i, 10 + i, 0, 0);
                }
            }
            scanNumbers();
            scanEntries();
            for (int i = 1; i < INODES; i++) {
                if (kindOf(i) != 0 && mem[10 + i][NAMES] != due[i]) {
                    addFault('l', i, 10 + i, NAMES, due[i]);
                }
            }
            scanMap();
            return foundCount;
        }

        // Between commands no block is touched, so these flags tell here which blocks were met.
        private void scanNumbers() {
            for (int i = 0; i < INODES; i++) {
                int numbers = numbersOf(i);
                int kind = kindOf(i);
                int last = kind != 1 && kind != 2 ? 0 : numbers > 0 ? 11 : 3;
                for (int n = 0; n < last; n++) {
                    int block = n < 3 ? 10 + i : numbers;
                    int cell = n < 3 ? 5 + n : n - 3;
                    int b = mem[block][cell];
                    if (b != 0 && (b < 30 || b >= BLOCKS)) {
                        addFault('p', i, block, cell, 0);
                    } else if (b != 0 && touched[b]) {
                        addFault('d', i, block, cell, 0);
                    } else if (b != 0) {
                        touched[b] = true;
                    }
                }
            }
            for (int b = 0; b < BLOCKS; b++) {
                touched[b] = false;
            }
        }

        /** Finds bad entries, and how many good ones there are of each inode. */
        private void scanEntries() {
            Arrays.fill(due, 0);
            for (int i = 0; i < INODES; i++) {
                int size = kindOf(i) == 2 ? sizeOf(i) : 0;
                for (int n = 0; n < size; n++) {
                    int v = cellOf(i, n);
                    if (isGoodEntry(v)) {
                        due[v / 100]++;
                    } else if (v != 0) {
                        addFault('e', i, blockOf(i, n / 8), n % 8, 0);
                    }
                }
            }
        }

        private void scanMap() {
            Arrays.fill(due, 0);
            for (int i = 0; i < INODES; i++) {
                int kind = kindOf(i);
                int owner = ownerOf(i);
                if (kind == 0) {
                    continue;
                }
                due[2] |= 1 << i;
                if (owner >= 0) {
                    due[3 + owner] += 100 + (kind == 3 ? 0 : countBlocks(i));
                }
                for (int n = 0; n < 11 && kind != 3; n++) {
                    int b = n < 10 ? blockOf(i, n) : numbersOf(i);
                    if (b >= 60) {
                        due[1] |= 1 << (b - 60);
                    } else if (b > 0) {
                        due[0] |= 1 << (b - 30);
                    }
                }
            }
            for (int c = 0; c < 8; c++) {
                if (mem[0][c] != due[c]) {
                    addFault('m', c, 0, c, due[c]);
                }
            }
        }

        /** Mends the disc of a machine that is down, till there are no faults: how many were mended. */
        int mendAll() {
            int mended = 0;
            for (int round = 0; round < 200; round++) {
                int count = scan();
                if (count == 0) {
                    break;
                }
                mended += count;
                for (int n = 0; n < count; n++) {
                    mendOne(n * World.FOUND_WIDTH);
                }
            }
            copyBlocks(mem, machine.drive.cells);
            copyBlocks(mem, base);
            return mended;
        }

        private void mendOne(int at) {
            int[] found = machine.world.found;
            int sign = found[at];
            int block = found[at + 2];
            int value = found[at + 4];
            if (block < 0 || block >= BLOCKS) {
                return;
            }
            if (sign == 'k' || (sign == 'l' && value == 0)) {
                Arrays.fill(mem[block], 0);
                if (block == 10) {
                    mem[10][0] = 2;
                    mem[10][MODE] = 493;
                    mem[10][NAMES] = 1;
                }
                return;
            }
            mem[block][found[at + 3]] = value;
        }
    }

    /** Open files and pipes of a machine, its terminal and its printer. */
    private static final class Files {
        static final int OPEN = 16;
        static final int PIPES = 6;
        static final int PIPE_SIZE = 6;
        static final int TOLD_CELLS = 200;
        static final int LINE = 40;
        static final int KEYS = 160;
        static final int JOB = 40;
        static final int END_KEY = -1;

        // What an open file is.
        static final int NOTHING = 0;
        static final int FILE = 1;
        static final int TERMINAL = 2;
        static final int READ_END = 3;
        static final int WRITE_END = 4;
        static final int CONNECTION = 5;

        final Machine machine;
        final int[] kind = new int[OPEN];
        final int[] number = new int[OPEN];
        // 1 to read, 2 to write, 16 to write at the end.
        final int[] mode = new int[OPEN];
        final int[] position = new int[OPEN];
        final int[] refs = new int[OPEN];
        final int[][] pipes = new int[PIPES][PIPE_SIZE];
        final int[] piped = new int[PIPES];
        final int[] line = new int[LINE];
        int lineCount;
        final int[] keyRow = new int[KEYS];
        int keyCount;
        final int[] shownCells = new int[TOLD_CELLS];
        int shownCount;
        final int[] printedCells = new int[TOLD_CELLS];
        int printedCount;
        // What each process has begun to print, and the cells of jobs that ended, which print one behind the other.
        final int[][] jobs = new int[PROCS][JOB];
        final int[] jobCount = new int[PROCS];
        int[] waiting = new int[256];
        int waitingCount;

        Files(Machine machine) {
            this.machine = machine;
        }

        void forgetTold() {
            shownCount = 0;
            printedCount = 0;
        }

        void clear() {
            Arrays.fill(kind, NOTHING);
            Arrays.fill(piped, 0);
            lineCount = 0;
            keyCount = 0;
            Arrays.fill(jobCount, 0);
            waitingCount = 0;
        }

        // ---- open files ----

        int freeCount() {
            int count = 0;
            for (int f = 0; f < OPEN; f++) {
                count += kind[f] == NOTHING ? 1 : 0;
            }
            return count;
        }

        /** A new open file that one has; there must be a free one. */
        int add(int newKind, int newNumber, int newMode) {
            int f = 0;
            while (f < OPEN - 1 && kind[f] != NOTHING) {
                f++;
            }
            kind[f] = newKind;
            number[f] = newNumber;
            mode[f] = newMode;
            position[f] = 0;
            refs[f] = 1;
            return f;
        }

        /** One less has an open file; without any it is closed. The end that has to be shut then, -1 for none. */
        int release(int f) {
            refs[f]--;
            if (refs[f] > 0) {
                return -1;
            }
            int was = kind[f];
            kind[f] = NOTHING;
            if (was == READ_END || was == WRITE_END) {
                if (!hasEnd(READ_END, number[f]) && !hasEnd(WRITE_END, number[f])) {
                    piped[number[f]] = 0;
                }
                machine.wake('p', number[f]);
            }
            return was == CONNECTION ? number[f] : -1;
        }

        boolean hasOpen(int inode) {
            for (int f = 0; f < OPEN; f++) {
                if (kind[f] == FILE && number[f] == inode) {
                    return true;
                }
            }
            return false;
        }

        boolean hasEnd(int end, int pipe) {
            for (int f = 0; f < OPEN; f++) {
                if (kind[f] == end && number[f] == pipe) {
                    return true;
                }
            }
            return false;
        }

        /** The lowest free pipe, -1 without one. */
        int freePipe() {
            for (int n = 0; n < PIPES; n++) {
                if (!hasEnd(READ_END, n) && !hasEnd(WRITE_END, n)) {
                    return n;
                }
            }
            return -1;
        }

        int freePipes() {
            int count = 0;
            for (int n = 0; n < PIPES; n++) {
                count += !hasEnd(READ_END, n) && !hasEnd(WRITE_END, n) ? 1 : 0;
            }
            return count;
        }

        /** Opens a file without a file number: the open file, or why not; the store may have to wait. */
        int open(int path, Proc p, int flags) {
            Store store = machine.store;
            store.waitSign = 0;
            if (freeCount() == 0) {
                return NONE_FREE;
            }
            int i = store.lead(path, p.directory, p.user, Store.FOLLOW);
            int error = i;
            if (i == NO_ENTRY && (flags & 4) != 0) {
                i = store.makeInode(path, p, 1, 420, 0);
                // The name is there: a link that leads to nothing.
                error = i == EXISTS ? NO_ENTRY : store.endCommand(store.putEntry(i));
            } else if (i >= 0) {
                error = openOld(i, p.user, flags);
                if (error >= 0 && (flags & 10) == 10) {
                    error = store.cutFile(i);
                }
            }
            if (store.waitSign != 0) {
                return 0;
            }
            return error < 0 ? error : add(FILE, i, flags & 19);
        }

        private int openOld(int i, int user, int flags) {
            Store store = machine.store;
            if ((flags & 36) == 36) {
                return EXISTS;
            }
            if (store.kindOf(i) == 2) {
                return IS_DIRECTORY;
            }
            if (((flags & 1) != 0 && !store.may(user, i, Store.READ))
                    || ((flags & 2) != 0 && !store.may(user, i, Store.WRITE))) {
                return NOT_ALLOWED;
            }
            return 0;
        }

        // ---- the terminal ----

        /** A key comes to the terminal; the signal that it sends to what runs in front, 0 for none. */
        int typeKey(int key) {
            if (key >= 32 && key <= 126) {
                if (lineCount < LINE) {
                    line[lineCount] = key;
                    lineCount++;
                }
                return 0;
            }
            switch (key) {
                case 8:
                    lineCount = Math.max(0, lineCount - 1);
                    return 0;
                case 21:
                    lineCount = 0;
                    return 0;
                case 10:
                    endLine(10);
                    return 0;
                case 4:
                    endLine(lineCount == 0 ? END_KEY : 0);
                    return 0;
                case 3:
                    lineCount = 0;
                    return 2;
                default: return key == 26 ? 9 : 0;
            }
        }

        static int oldest(int[] cells, int count, int index) {
            int told = Math.min(count, TOLD_CELLS);
            return cells[(count - told + index) % TOLD_CELLS];
        }

        void show(int value) {
            shownCells[shownCount % TOLD_CELLS] = value;
            shownCount++;
        }

        int lastShown() {
            return shownCount == 0 ? 0 : shownCells[(shownCount - 1) % TOLD_CELLS];
        }

        /** What was typed can be read now, if there is room for all of it. */
        void endLine(int last) {
            int more = lineCount + (last == 0 ? 0 : 1);
            if (keyCount + more <= KEYS) {
                System.arraycopy(line, 0, keyRow, keyCount, lineCount);
                if (last != 0) {
                    keyRow[keyCount + lineCount] = last;
                }
                keyCount += more;
                machine.wake('k', 0);
            }
            lineCount = 0;
        }

        int takeKey() {
            int key = keyRow[0];
            keyCount--;
            System.arraycopy(keyRow, 1, keyRow, 0, keyCount);
            return key;
        }

        // ---- the printer ----

        void endJob(int p) {
            int count = jobCount[p];
            jobCount[p] = 0;
            if (waitingCount + count > waiting.length) {
                waiting = Arrays.copyOf(waiting, 2 * waiting.length);
            }
            System.arraycopy(jobs[p], 0, waiting, waitingCount, count);
            waitingCount += count;
        }

        void printOne() {
            if (machine.world.clock % 2 == 0 && waitingCount > 0) {
                printedCells[printedCount % TOLD_CELLS] = waiting[0];
                printedCount++;
                waitingCount--;
                System.arraycopy(waiting, 1, waiting, 0, waitingCount);
            }
        }
    }

    /** An end of a connection. */
    private static final class End {
        static final int ROW = 6;
        static final int AT_ONCE = 3;

        int state;
        int id;
        int other;
        int peer;
        int port;
        // What was written and is not acknowledged: the cells, 1 if the close is behind them, how many were sent.
        final int[] out = new int[ROW];
        int outCount;
        int closing;
        int sent;
        int first;
        final int[] in = new int[ROW];
        int inCount;
        int expected;
        boolean otherClosed;
        int due;
        int tries;
        boolean isRefused;
        // The order in which it came to wait at its port, 0 if it does not.
        int waitsSince;

        void makeNew(int newState, int newId, int newOther, int newPeer, int newPort) {
            state = newState;
            id = newId;
            other = newOther;
            peer = newPeer;
            port = newPort;
            outCount = 0;
            closing = 0;
            sent = 0;
            first = 0;
            inCount = 0;
            expected = 0;
            otherClosed = false;
            due = 0;
            tries = 0;
            isRefused = false;
            waitsSince = 0;
        }

        int takeCell() {
            int value = in[0];
            inCount--;
            System.arraycopy(in, 1, in, 0, inCount);
            return value;
        }

        int tellOf(char what) {
            switch (what) {
                case 's': return state;
                case 'i': return id;
                case 'm': return other;
                case 'o': return outCount + closing;
                case 'r': return inCount;
                case 'b': return first;
                default: return expected;
            }
        }
    }

    /** The network of a machine: ends of connections and ports, names, far files with leases, and the server. */
    private static final class Net {
        static final int ENDS = 6;
        static final int PORTS = 10;
        static final int PATIENCE = 12;
        static final int COPIES = 4;
        static final int COPY_WIDTH = 87;
        static final int NAME_PAUSE = 16;
        static final int FILE_PAUSE = 20;
        static final int ROW_WIDTH = 6;

        final Machine machine;
        final End[] ends = new End[ENDS];
        // For each port the process that listens there, -1 for none.
        final int[] listener = new int[PORTS];
        int lastId;
        // What names are, kept by machine 0; and answers that were kept, with when they came.
        final int[] names = new int[27];
        final int[] keptNames = new int[27];
        final int[] keptAt = new int[27];
        int lastNumber;
        // The thread that has the request for a far file, -1 for none.
        int asker;
        // For each inode and machine when its lease ends, 0 without one, and whether it was told to give it back.
        final int[][] leaseEnd = new int[Store.INODES][MACHINES];
        final int[][] isTold = new int[Store.INODES][MACHINES];
        int latestEnd;
        int grace;
        // The copies, as they came: machine, path, user, when the lease ends, inode, size, cells.
        final int[][] kept = new int[COPIES][COPY_WIDTH];
        int keptCount;
        // The requests to the server: from, number, what is asked, path, value.
        int[] row = new int[64 * ROW_WIDTH];
        int rowCount;
        // For each machine what was answered last: the number, the result, the parcel or inode, the end of the lease.
        final int[][] answered = new int[MACHINES][4];

        private Net(Machine machine) {
            this.machine = machine;
        }

        static Net make(Machine machine) {
            Net x = new Net(machine);
            for (int e = 0; e < ENDS; e++) {
                x.ends[e] = new End();
            }
            return x;
        }

        void makeNew() {
            lastId = 0;
            lastNumber = 0;
            latestEnd = 0;
        }

        void clear() {
            for (int e = 0; e < ENDS; e++) {
                ends[e].state = 0;
            }
            Arrays.fill(listener, -1);
            Arrays.fill(names, -1);
            Arrays.fill(keptNames, -1);
            asker = -1;
            for (int i = 0; i < Store.INODES; i++) {
                Arrays.fill(leaseEnd[i], 0);
                Arrays.fill(isTold[i], 0);
            }
            grace = 0;
            keptCount = 0;
            rowCount = 0;
            for (int m = 0; m < MACHINES; m++) {
                Arrays.fill(answered[m], 0);
                answered[m][2] = -1;
            }
        }

        // ---- connections ----

        int freeEnd() {
            for (int e = 0; e < ENDS; e++) {
                if (ends[e].state == 0) {
                    return e;
                }
            }
            return -1;
        }

        private int withId(int id) {
            for (int e = 0; e < ENDS; e++) {
                if (ends[e].state != 0 && ends[e].id == id) {
                    return e;
                }
            }
            return -1;
        }

        private void askAgain(End x) {
            machine.world.post(machine.number, x.other, 'O', 0, x.id, x.port, 0);
        }

        /** What may be under way and was not sent yet is sent. */
        private void sendMore(End x) {
            int bound = Math.min(End.AT_ONCE, x.outCount + x.closing);
            while (x.sent < bound) {
                boolean isCell = x.sent < x.outCount;
                machine.world.post(machine.number, x.other, isCell ? 'D' : 'F', x.peer, x.id, x.first + x.sent,
                        isCell ? x.out[x.sent] : 0);
                x.sent++;
                x.due = x.due == 0 ? machine.world.clock + PATIENCE : x.due;
            }
        }

        /** An end is broken, or gone if it closes; who waits for one that is gone is told by an X alone. */
        private void breakEnd(int e, boolean isRefused) {
            End x = ends[e];
            boolean isGone = x.state == 'c';
            if (isGone) {
                x.state = 0;
            } else {
                x.state = 'b';
                x.isRefused = isRefused;
                x.due = 0;
                machine.world.note(machine.number, 'b', e);
            }
            if (isRefused || !isGone) {
                machine.wake('n', e);
            }
        }

        // ---- what rows do ----

        /** Asks for a connection; there must be a free end. */
        int askFor(int other, int port) {
            int e = Math.max(0, freeEnd());
            lastId++;
            ends[e].makeNew('o', lastId, other, 0, port);
            askAgain(ends[e]);
            ends[e].due = machine.world.clock + PATIENCE;
            return e;
        }

        void drop(int e) {
            ends[e].state = 0;
        }

        /** Its file is closed. */
        void shut(int e) {
            End x = ends[e];
            if (x.state == 'e') {
                x.state = 'c';
                x.closing = 1;
                sendMore(x);
            } else {
                x.state = 0;
            }
        }

        void write(int e, int value) {
            End x = ends[e];
            x.out[x.outCount] = value;
            x.outCount++;
            sendMore(x);
        }

        /** The end that waits at a port for the longest time, -1 without one. */
        int firstAt(int port) {
            int first = -1;
            for (int e = 0; e < ENDS; e++) {
                if (ends[e].state != 0 && ends[e].waitsSince > 0 && ends[e].port == port
                        && (first < 0 || ends[e].waitsSince < ends[first].waitsSince)) {
                    first = e;
                }
            }
            return first;
        }

        private int countAt(int port) {
            int count = 0;
            for (int e = 0; e < ENDS; e++) {
                count += ends[e].state != 0 && ends[e].waitsSince > 0 && ends[e].port == port ? 1 : 0;
            }
            return count;
        }

        void closePorts(int p) {
            for (int port = 0; port < PORTS; port++) {
                if (listener[port] != p) {
                    continue;
                }
                listener[port] = -1;
                for (int i = 0; i < ENDS; i++) {
                    int e = firstAt(port);
                    if (e >= 0) {
                        machine.world.post(machine.number, ends[e].other, 'X', ends[e].peer, ends[e].id, 0, 0);
                        ends[e].state = 0;
                    }
                }
            }
        }

        // ---- what arrives ----

        private void answer(int to, int kind, int toId, int fromId, int number) {
            machine.world.post(machine.number, to, kind, toId, fromId, number, 0);
        }

        void asked(int from, int fromId, int port) {
            for (int e = 0; e < ENDS; e++) {
                if (ends[e].state != 0 && ends[e].other == from && ends[e].peer == fromId) {
                    answer(from, 'A', fromId, ends[e].id, 0);
                    return;
                }
            }
            int e = freeEnd();
            if (port < 0 || port >= PORTS || listener[port] < 0 || countAt(port) >= 3 || e < 0) {
                answer(from, 'X', fromId, 0, 0);
                return;
            }
            lastId++;
            machine.order++;
            ends[e].makeNew('e', lastId, from, fromId, port);
            ends[e].waitsSince = machine.order;
            machine.wake('n', -1 - port);
            answer(from, 'A', fromId, lastId, 0);
        }

        void accepted(int from, int toId, int fromId) {
            int e = withId(toId);
            if (e < 0 || ends[e].state == 'b') {
                answer(from, 'X', fromId, toId, 0);
                return;
            }
            End x = ends[e];
            if (x.state == 'o') {
                x.state = 'e';
                x.peer = fromId;
                x.due = 0;
                x.tries = 0;
                machine.wake('n', e);
            }
        }

        void refused(int toId) {
            int e = withId(toId);
            if (e >= 0 && ends[e].state != 'b') {
                breakEnd(e, true);
            }
        }

        /** The end to which something came, if it can take it; where there is none an X is sent. */
        private int taker(int from, int toId, int fromId) {
            int e = withId(toId);
            if (e < 0 || ends[e].state == 'b') {
                answer(from, 'X', fromId, toId, 0);
                return -1;
            }
            return ends[e].state == 'o' ? -1 : e;
        }

        void came(int from, int toId, int fromId, int number, int cell) {
            int e = taker(from, toId, fromId);
            if (e < 0) {
                return;
            }
            End x = ends[e];
            if (number == x.expected && (x.state == 'c' || x.inCount < End.ROW)) {
                x.expected++;
                if (x.state == 'e') {
                    x.in[x.inCount] = cell;
                    x.inCount++;
                }
                machine.wake('n', e);
            }
            answer(from, 'K', fromId, x.id, x.expected);
        }

        void closed(int from, int toId, int fromId, int number) {
            int e = taker(from, toId, fromId);
            if (e < 0) {
                return;
            }
            End x = ends[e];
            if (number == x.expected) {
                x.expected++;
                x.otherClosed = true;
                machine.wake('n', e);
            }
            answer(from, 'K', fromId, x.id, x.expected);
        }

        void acknowledged(int from, int toId, int fromId, int number) {
            int e = taker(from, toId, fromId);
            if (e < 0) {
                return;
            }
            End x = ends[e];
            int some = Math.min(number - x.first, x.sent);
            if (some <= 0) {
                return;
            }
            int cells = Math.min(some, x.outCount);
            x.outCount -= cells;
            System.arraycopy(x.out, cells, x.out, 0, x.outCount);
            x.first += some;
            x.sent -= some;
            x.tries = 0;
            machine.wake('n', e);
            if (some > cells) {
                x.state = 0;
                return;
            }
            sendMore(x);
            x.due = x.sent > 0 ? machine.world.clock + PATIENCE : 0;
        }

        void doDue() {
            for (int e = 0; e < ENDS; e++) {
                End x = ends[e];
                if (x.state == 0 || x.due != machine.world.clock) {
                    continue;
                }
                x.tries++;
                if (x.tries >= 6) {
                    breakEnd(e, false);
                    continue;
                }
                x.due = machine.world.clock + PATIENCE;
                if (x.state == 'o') {
                    askAgain(x);
                }
                x.sent = 0;
                sendMore(x);
            }
        }

        // ---- requests of threads ----

        /** A thread begins a request; what it tells is in B, C and D of what the thread keeps. */
        void ask(int t, int op, int to) {
            int[] begun = machine.tasks[t].begun;
            lastNumber++;
            begun[Task.OP] = op;
            begun[Task.TARGET] = to;
            begun[Task.OVER] = 0;
            begun[Task.NUMBER] = lastNumber;
            begun[Task.SENT] = 0;
            sendOnce(begun);
            if (op >= 85) {
                asker = t;
            }
        }

        private void sendOnce(int[] begun) {
            boolean isName = begun[Task.OP] < 85;
            begun[Task.SENT]++;
            begun[Task.DUE] = machine.world.clock + (isName ? NAME_PAUSE : FILE_PAUSE);
            machine.world.post(machine.number, begun[Task.TARGET], isName ? 'N' : 'R', begun[Task.NUMBER],
                    begun[Task.B], begun[Task.C], begun[Task.D]);
        }

        void sendDue() {
            for (int t = 0; t < TASKS; t++) {
                int[] begun = machine.tasks[t].begun;
                int op = begun[Task.OP];
                if (machine.tasks[t].isLive() && op >= 83 && op <= 86 && begun[Task.OVER] == 0
                        && begun[Task.DUE] == machine.world.clock) {
                    if (begun[Task.SENT] >= 4) {
                        over(t, NO_ANSWER, 0);
                    } else {
                        sendOnce(begun);
                    }
                }
            }
        }

        /** A request of a thread is over: the result, and for 85 the cell. */
        private void over(int t, int result, int cell) {
            int[] begun = machine.tasks[t].begun;
            begun[Task.OVER] = 1;
            begun[Task.ANSWER] = result;
            begun[Task.C] = cell;
            if (begun[Task.OP] < 85) {
                machine.wake('f', t);
            } else {
                endRequest();
            }
        }

        void endRequest() {
            asker = -1;
            machine.wake('x', ANY);
        }

        private int taskOf(int number, boolean isName) {
            for (int t = 0; t < TASKS; t++) {
                int[] begun = machine.tasks[t].begun;
                int op = begun[Task.OP];
                if (machine.tasks[t].isLive() && op >= (isName ? 83 : 85) && op <= (isName ? 84 : 86)
                        && begun[Task.NUMBER] == number && begun[Task.OVER] == 0) {
                    return t;
                }
            }
            return -1;
        }

        // ---- names ----

        void answerName(int from, int request, int op, int name, int port) {
            int value = 0;
            if (name < 1 || name > 26) {
                return;
            }
            if (op == 83) {
                names[name] = 10 * from + port;
            } else {
                value = names[name] < 0 ? NO_ENTRY : names[name];
            }
            machine.world.post(machine.number, from, 'M', request, value, 0, 0);
        }

        void nameAnswered(int request, int value) {
            int t = taskOf(request, true);
            if (t < 0) {
                return;
            }
            int[] begun = machine.tasks[t].begun;
            int name = begun[Task.C];
            if (begun[Task.OP] == 84 && value >= 0 && name >= 1 && name <= 26) {
                keptNames[name] = value;
                keptAt[name] = machine.world.clock;
            }
            over(t, value, 0);
        }

        /** What is kept of a name, -1 without anything that may be taken. */
        int keptName(int name) {
            return keptNames[name] >= 0 && machine.world.clock < keptAt[name] + 60 ? keptNames[name] : -1;
        }

        // ---- leases ----

        /** Whether who wants to write a file has to wait for others; they are told then. */
        boolean mustWait(int inode, int writer) {
            if (machine.world.clock < grace) {
                machine.store.waitFor('v', -1);
                return true;
            }
            boolean some = false;
            for (int m = 0; m < MACHINES; m++) {
                if (m == writer || leaseEnd[inode][m] == 0) {
                    continue;
                }
                some = true;
                if (isTold[inode][m] == 0) {
                    isTold[inode][m] = 1;
                    machine.world.note(machine.number, 'k', inode);
                    machine.world.post(machine.number, m, 'T', inode, 0, 0, 0);
                }
            }
            if (some) {
                machine.store.waitFor('v', inode);
            }
            return some;
        }

        private void endLease(int inode, int m) {
            if (leaseEnd[inode][m] > 0) {
                leaseEnd[inode][m] = 0;
                isTold[inode][m] = 0;
                machine.wake('v', inode);
            }
        }

        void endLeases() {
            if (grace > 0 && grace == machine.world.clock) {
                machine.wake('v', -1);
            }
            for (int i = 0; i < Store.INODES; i++) {
                for (int m = 0; m < MACHINES; m++) {
                    if (leaseEnd[i][m] == machine.world.clock) {
                        endLease(i, m);
                    }
                }
            }
        }

        void giveBack(int from, int inode) {
            dropCopies(from, inode);
            machine.world.post(machine.number, from, 'G', inode, 0, 0, 0);
        }

        void gotBack(int from, int inode) {
            if (inode >= 0 && inode < Store.INODES) {
                endLease(inode, from);
            }
        }

        int leaseBits(int inode) {
            int bits = 0;
            for (int m = 0; m < MACHINES; m++) {
                bits |= leaseEnd[inode][m] > 0 ? 1 << m : 0;
            }
            return bits;
        }

        // ---- copies ----

        private void dropCopies(int m, int inode) {
            int left = 0;
            for (int n = 0; n < keptCount; n++) {
                int[] x = kept[n];
                if (x[0] != m || x[4] != inode) {
                    kept[n] = kept[left];
                    kept[left] = x;
                    left++;
                }
            }
            keptCount = left;
        }

        private void removeCopy(int n) {
            int[] x = kept[n];
            for (int i = n; i + 1 < keptCount; i++) {
                kept[i] = kept[i + 1];
            }
            keptCount--;
            kept[keptCount] = x;
        }

        private int copyOf(int m, int path, int user) {
            for (int n = 0; n < keptCount; n++) {
                if (kept[n][0] == m && kept[n][1] == path && kept[n][2] == user) {
                    return n;
                }
            }
            return -1;
        }

        /** A copy that may be taken, null without one. */
        int[] goodCopy(int m, int path, int user) {
            int n = copyOf(m, path, user);
            return n >= 0 && kept[n][3] > machine.world.clock ? kept[n] : null;
        }

        int countCopies() {
            int count = 0;
            for (int n = 0; n < keptCount; n++) {
                count += kept[n][3] > machine.world.clock ? 1 : 0;
            }
            return count;
        }

        private void keepCopy(int[] begun, int[] parcel, int end) {
            int m = begun[Task.TARGET];
            int path = begun[Task.C];
            int user = begun[Task.B] / 100 % 10;
            int n = copyOf(m, path, user);
            if (n >= 0) {
                removeCopy(n);
            } else if (keptCount >= COPIES) {
                removeCopy(0);
            }
            int[] x = kept[keptCount];
            x[0] = m;
            x[1] = path;
            x[2] = user;
            x[3] = end;
            System.arraycopy(parcel, 0, x, 4, World.PARCEL_WIDTH);
            keptCount++;
        }

        static int cellOf(int[] x, int from, int index) {
            return index >= 0 && index < x[from + 1] && index < Store.LONGEST ? x[from + 2 + index] : 0;
        }

        void fileAnswered(int request, int result, int thing, int end) {
            int t = taskOf(request, false);
            if (t < 0) {
                return;
            }
            int[] begun = machine.tasks[t].begun;
            if (result < 0) {
                over(t, result, 0);
            } else if (begun[Task.OP] == 86) {
                dropCopies(begun[Task.TARGET], thing);
                over(t, 1, 0);
            } else if (thing >= 0 && thing < World.PARCELS) {
                int[] parcel = machine.world.parcels[thing];
                keepCopy(begun, parcel, end);
                int index = machine.tasks[t].regs[7];
                over(t, index < parcel[1] ? 1 : 0, cellOf(parcel, 0, index));
            }
        }

        // ---- the server ----

        void takeRequest(int from, int request, int what, int path, int value) {
            if (request == answered[from][0]) {
                sendAnswer(from);
                return;
            }
            if (request < answered[from][0]) {
                return;
            }
            for (int n = 0; n < rowCount; n++) {
                if (row[n * ROW_WIDTH] == from && row[n * ROW_WIDTH + 1] == request) {
                    return;
                }
            }
            int at = rowCount * ROW_WIDTH;
            if (at + ROW_WIDTH > row.length) {
                row = Arrays.copyOf(row, 2 * row.length);
            }
            row[at] = from;
            row[at + 1] = request;
            row[at + 2] = what;
            row[at + 3] = path;
            row[at + 4] = value;
            rowCount++;
        }

        private void sendAnswer(int to) {
            int[] x = answered[to];
            machine.world.post(machine.number, to, 'Q', x[0], x[1], x[2], x[3]);
        }

        boolean keepsParcel(int parcel) {
            for (int m = 0; m < MACHINES; m++) {
                if (answered[m][2] == parcel) {
                    return true;
                }
            }
            return false;
        }

        /** The server tries its first request. */
        void serve() {
            if (rowCount == 0) {
                return;
            }
            Store store = machine.store;
            int from = row[0];
            int what = row[2];
            int user = what / 100 % 10;
            boolean isRead = what / 1000 == 85;
            int i = store.lead(row[3], 0, user, Store.FOLLOW);
            int result = i;
            if (i >= 0) {
                if (store.kindOf(i) == 2) {
                    result = IS_DIRECTORY;
                } else if (!store.may(user, i, isRead ? Store.READ : Store.WRITE)) {
                    result = NOT_ALLOWED;
                } else if (isRead) {
                    result = holdsAll(i) ? 1 : 0;
                } else {
                    result = store.writeCell(i, what % 100, row[4], -1, from);
                    result = store.waitSign != 0 ? 0 : result;
                }
            }
            if (result == 0) {
                return;
            }
            int[] x = answered[from];
            x[0] = row[1];
            x[1] = result;
            x[2] = -1;
            x[3] = 0;
            if (result > 0 && isRead) {
                x[2] = pack(i);
                x[3] = giveLease(i, from);
            } else if (result > 0) {
                x[2] = i;
                endLease(i, from);
            }
            rowCount--;
            System.arraycopy(row, ROW_WIDTH, row, 0, rowCount * ROW_WIDTH);
            sendAnswer(from);
        }

        private boolean holdsAll(int i) {
            Store store = machine.store;
            for (int n = 0; n < 10; n++) {
                int b = store.blockOf(i, n);
                if (b > 0 && !store.holds[b]) {
                    store.askFor(b, -1);
                    return false;
                }
            }
            return true;
        }

        private int pack(int i) {
            int n = machine.world.freeParcel();
            int[] parcel = machine.world.parcels[n];
            parcel[0] = i;
            parcel[1] = machine.store.sizeOf(i);
            for (int c = 0; c < Store.LONGEST; c++) {
                parcel[2 + c] = machine.store.readCell(i, c, -1);
            }
            return n;
        }

        private int giveLease(int i, int m) {
            int end = machine.world.clock + 40;
            leaseEnd[i][m] = end;
            isTold[i][m] = 0;
            latestEnd = Math.max(latestEnd, end);
            machine.world.note(machine.number, 'v', i);
            return end;
        }
    }

    /** Does the rows of programs: what each operation means. Locks and queues are here, too. */
    private static final class Rows {
        static final int LOCKS = 6;
        static final int QUEUE_SIZE = 3;

        final Machine machine;
        // For each lock the thread that has it, -1 for none, and 1 if it is broken.
        final int[] holder = new int[LOCKS];
        final int[] broken = new int[LOCKS];
        final int[][] queues = new int[4][QUEUE_SIZE];
        final int[] queued = new int[4];
        // The thread, its process and the row that is done, with what its operands are.
        int t;
        Task k;
        int pn;
        Proc p;
        int op;
        int a;
        int c;
        int va;
        int vb;
        int vc;
        // A number for what has to happen behind the row, and the processes to which a signal goes, as bits.
        int out;
        int targets;

        Rows(Machine machine) {
            this.machine = machine;
        }

        void clear() {
            Arrays.fill(holder, -1);
            Arrays.fill(broken, 0);
            Arrays.fill(queued, 0);
        }

        /** Whether there is an operation, and where its answer comes: 0 there is none, 1 nowhere, 2 in R(a). */
        private static int shapeOf(int op) {
            if (op == 0 || op == 8 || op == 9 || op == 11 || op == 22 || op == 26 || op == 30 || op == 33) {
                return 1;
            }
            boolean is = (op >= 1 && op <= 14) || (op >= 20 && op <= 35) || (op >= 40 && op <= 46)
                    || (op >= 50 && op <= 71) || (op >= 80 && op <= 86);
            return is ? 2 : 0;
        }

        private static boolean isRegister(int r) {
            return r >= 0 && r <= 7;
        }

        /** The register in which the answer of the row of a thread comes, -1 without one. */
        int answerRegister(int task) {
            Task x = machine.tasks[task];
            int program = machine.procs[x.proc].program;
            if (program < 0 || program >= SHELL || x.row < 0 || x.row >= machine.world.rowCount[program]) {
                return -1;
            }
            int[] rows = machine.world.program[program];
            int at = x.row * 4;
            int r = rows[at] == 52 ? rows[at + 3] : rows[at + 1];
            return shapeOf(rows[at]) == 2 && isRegister(r) ? r : -1;
        }

        private int operand(int x) {
            return x >= 1000 && x <= 1007 ? k.regs[x - 1000] : x;
        }

        private int set(int value) {
            k.regs[a] = value;
            return DONE;
        }

        private int waitFor(int sign, int number) {
            machine.hold(t, sign, number);
            return STAY;
        }

        private int waitForStore() {
            machine.hold(t, machine.store.waitSign, machine.store.waitNumber);
            return STAY;
        }

        /** What a command of the store answered comes to R(a), unless it has to wait. */
        private int setFromStore(int value) {
            return machine.store.waitSign != 0 ? waitForStore() : set(value);
        }

        private int rowCount() {
            return p.program >= 0 && p.program < SHELL ? machine.world.rowCount[p.program] : 0;
        }

        /** A signal for which a row is gone to takes the place of the row at which the thread is. */
        private void divert() {
            int s = k.diverted ? 0 : p.lowestPending(true);
            if (s > 0) {
                p.dropPending(s);
                machine.forgetBegun(t);
                k.keptRow = k.row;
                k.diverted = true;
                k.row = p.acts[s];
            }
        }

        private boolean isIll(boolean driven) {
            int shape = shapeOf(op);
            return shape == 0 || (shape == 2 && !isRegister(a)) || ((op == 45 || op == 52) && !isRegister(c))
                    || (driven && (op == 8 || op == 9 || op == 24 || op == 28 || op == 30));
        }

        int perform(int task) {
            t = task;
            k = machine.tasks[t];
            pn = k.proc;
            p = machine.procs[pn];
            boolean driven = p.program == DRIVEN;
            int[] rows = k.told;
            int at = 0;
            if (!driven) {
                divert();
                int count = rowCount();
                if (k.row < 0 || k.row >= count) {
                    machine.forgetBegun(t);
                    out = 0;
                    return k.row == count ? END_THREAD : ILL;
                }
                rows = machine.world.program[p.program];
                at = k.row * 4;
            }
            op = rows[at];
            a = rows[at + 1];
            c = rows[at + 3];
            va = operand(a);
            vb = operand(rows[at + 2]);
            vc = operand(c);
            k.waitOp = op;
            if (k.begun[Task.OP] != op) {
                machine.forgetBegun(t);
            }
            if (isIll(driven)) {
                return ILL;
            }
            if (op < 20) {
                return op == 10 || op == 11 ? doMemory() : doPlain();
            }
            if (op < 40) {
                return op < 27 ? doProcess() : doSignal();
            }
            if (op < 50) {
                return op < 44 ? doLock() : doCall();
            }
            if (op < 80) {
                machine.store.waitSign = 0;
                return op == 52 ? read() : op == 53 ? write() : doFile();
            }
            return op < 83 ? doConnection() : op < 85 ? doName() : doFar();
        }

        // ---- without waiting ----

        private int doPlain() {
            switch (op) {
                case 0: return DONE;
                case 1: return set(vb);
                case 2: return set(vb + vc);
                case 3: return set(vb - vc);
                case 4: return set(vb * vc);
                case 5: return vc == 0 ? FAULT : set(vb / vc);
                case 6: return set(vb < vc ? 1 : 0);
                case 7: return set(vb == vc ? 1 : 0);
                case 8:
                    k.row = va;
                    return MOVED;
                case 9:
                    if (va == 0) {
                        return DONE;
                    }
                    k.row = vb;
                    return MOVED;
                case 12: return set(vb >= 0 && vb < 64 ? p.args[vb] : 0);
                case 13: return set(machine.world.clock);
                default: return set(digitOf(vb, vc));
            }
        }

        private static int digitOf(int value, int index) {
            if (index < 0 || index > 11 || (value < 0 && index == 0)) {
                return value < 0 && index == 0 ? '-' : 0;
            }
            long rest = Math.abs((long) value);
            int digits = 1;
            for (long n = rest; n >= 10; n /= 10) {
                digits++;
            }
            int place = digits - 1 - (value < 0 ? index - 1 : index);
            if (place < 0) {
                return 0;
            }
            for (int i = 0; i < place; i++) {
                rest /= 10;
            }
            return (int) ('0' + rest % 10);
        }

        private int doMemory() {
            if (vb < 0 || vb > 63) {
                return FAULT;
            }
            Memory memory = machine.memory;
            int page = vb / 8;
            if (memory.sign[pn][page] == 'm') {
                return doMapped(memory.at[pn][page]);
            }
            int f = memory.use(pn, page, op == 11);
            if (f == Memory.MUST_WAIT) {
                return waitFor(memory.waitSign, memory.waitNumber);
            }
            if (f == Memory.NOT_THERE) {
                return FAULT;
            }
            if (f < 0) {
                out = 137;
                return END_PROCESS;
            }
            if (op == 10) {
                return set(memory.cells[f][vb % 8]);
            }
            memory.cells[f][vb % 8] = va;
            return DONE;
        }

        private int doMapped(int place) {
            Store store = machine.store;
            int i = place / 100;
            int index = place % 100 * 8 + vb % 8;
            if (op == 10) {
                return setFromStore(store.readCell(i, index, p.user));
            }
            int answer = store.writeCell(i, index, va, p.user, machine.number);
            if (store.waitSign != 0) {
                return waitForStore();
            }
            if (answer < 0) {
                return FAULT;
            }
            machine.accounts[p.user * Machine.COUNTS + Machine.WRITES]++;
            return DONE;
        }

        // ---- processes and threads ----

        private int doProcess() {
            switch (op) {
                case 20: return fork();
                case 21: return change();
                case 22:
                    out = Math.floorMod(va, 256);
                    return END_PROCESS;
                case 23: return takeChild();
                case 24:
                    if (vb < 0 || vb > rowCount()) {
                        return set(INVALID);
                    }
                    if (machine.freeTask() < 0) {
                        return set(NONE_FREE);
                    }
                    int n = machine.makeTask(pn, vb);
                    System.arraycopy(k.regs, 0, machine.tasks[n].regs, 0, 8);
                    return set(n);
                case 25: return join();
                default:
                    out = va;
                    return END_THREAD;
            }
        }

        private int fork() {
            if (!machine.hasRoom(1)) {
                return set(NONE_FREE);
            }
            int q = machine.makeProcess(pn, p.user, p.program);
            Proc x = machine.procs[q];
            x.version = p.version;
            x.directory = p.directory;
            for (int f = 0; f < 6; f++) {
                x.files[f] = p.files[f];
                if (x.files[f] >= 0) {
                    machine.files.refs[x.files[f]]++;
                }
            }
            System.arraycopy(p.args, 0, x.args, 0, 64);
            System.arraycopy(p.acts, 0, x.acts, 0, 12);
            x.mask = p.mask;
            x.priority = p.priority;
            x.limit = p.limit;
            machine.memory.share(pn, q);
            Task n = machine.tasks[Math.max(0, machine.lowestTask(q))];
            System.arraycopy(k.regs, 0, n.regs, 0, 8);
            n.regs[a] = 0;
            n.row = p.program == DRIVEN ? 0 : k.row + 1;
            return set(q);
        }

        private int change() {
            if (vb < 0 || vb >= SHELL) {
                return set(INVALID);
            }
            for (int n = 0; n < TASKS; n++) {
                if (n != t && machine.tasks[n].state != FREE && machine.tasks[n].proc == pn) {
                    machine.dropTask(n);
                    machine.breakLocksOf(n);
                }
            }
            machine.memory.dropPages(pn);
            p.program = vb;
            p.version = 0;
            p.nextProgram = -1;
            p.changedAt = -1;
            p.forgetActs();
            Arrays.fill(k.regs, 0);
            k.row = 0;
            k.diverted = false;
            return NEW_PROGRAM;
        }

        private int takeChild() {
            boolean some = false;
            for (int q = 1; q < PROCS; q++) {
                Proc x = machine.procs[q];
                if (x.state != FREE && x.parent == pn) {
                    some = true;
                    if (x.state == ENDED) {
                        x.state = FREE;
                        return set(1000 * q + x.value);
                    }
                }
            }
            return some ? waitFor('c', pn) : set(-10);
        }

        private int join() {
            if (vb < 0 || vb >= TASKS || vb == t || machine.tasks[vb].state == FREE
                    || machine.tasks[vb].proc != pn) {
                return set(NO_PROCESS);
            }
            Task x = machine.tasks[vb];
            if (x.state != ENDED) {
                return waitFor('j', vb);
            }
            x.state = FREE;
            return set(x.value);
        }

        // ---- signals and the like ----

        private int doSignal() {
            int before = 0;
            switch (op) {
                case 27: return send();
                case 28: return setAct();
                case 29:
                    before = p.mask;
                    p.mask = vb & 0xFFE & ~(1 << 3) & ~(1 << 9);
                    set(before);
                    return LOOSE;
                case 30:
                    if (!k.diverted) {
                        return ILL;
                    }
                    k.diverted = false;
                    k.row = k.keptRow;
                    return MOVED;
                case 31:
                    if (vb < 0) {
                        return set(INVALID);
                    }
                    // A sum that wraps is below 0: no clock comes there, and the rest is told all the same.
                    before = p.alarm != 0 ? p.alarm - machine.world.clock : 0;
                    p.alarm = vb == 0 ? 0 : machine.world.clock + vb;
                    return set(before);
                case 32:
                    if (vb < 0 || vb > 7) {
                        return set(INVALID);
                    }
                    before = p.priority;
                    if (vb > before && p.user != 0) {
                        return set(NOT_ALLOWED);
                    }
                    p.priority = vb;
                    return set(before);
                case 33: return sleep();
                case 34: return set(vb == 0 ? pn : vb == 1 ? t : vb == 2 ? p.parent : vb == 3 ? p.user
                        : vb == 4 ? p.version : INVALID);
                default:
                    if (vb < 0 || vb > 8) {
                        return set(INVALID);
                    }
                    before = p.limit;
                    p.limit = vb;
                    return set(before);
            }
        }

        /** Whether a signal may be sent to a process: 0, or why not. */
        int maySend(Proc sender, int process, int signal) {
            if (signal < 1 || signal > 11) {
                return INVALID;
            }
            if (process < 1 || process >= PROCS || !machine.procs[process].isAlive()) {
                return NO_PROCESS;
            }
            return sender.user != 0 && sender.user != machine.procs[process].user ? NOT_ALLOWED : 0;
        }

        private int send() {
            int error = maySend(p, vb, vc);
            set(error);
            out = vc;
            targets = error < 0 ? 0 : 1 << vb;
            return error < 0 ? DONE : SIGNAL;
        }

        private int setAct() {
            if (vb < 1 || vb > 11 || vb == 3 || vb == 9 || vc < Proc.NO_ACT || vc > rowCount()) {
                return set(INVALID);
            }
            int before = p.acts[vb];
            p.acts[vb] = vc;
            set(before);
            return LOOSE;
        }

        private int sleep() {
            k.wakeAt = machine.world.clock + Math.max(1, va);
            if (p.program != DRIVEN) {
                k.row++;
            }
            return waitFor('t', 0);
        }

        // ---- locks, queues, calls ----

        private int doLock() {
            if (vb < 0 || vb >= (op < 42 ? LOCKS : queued.length)) {
                return set(INVALID);
            }
            switch (op) {
                case 40:
                    if (holder[vb] == t) {
                        return set(-35);
                    }
                    if (holder[vb] >= 0) {
                        return waitFor('l', vb);
                    }
                    holder[vb] = t;
                    set(broken[vb]);
                    broken[vb] = 0;
                    return DONE;
                case 41:
                    if (holder[vb] != t) {
                        return set(NOT_ALLOWED);
                    }
                    holder[vb] = -1;
                    machine.wake('l', vb);
                    return set(0);
                case 42:
                    if (queued[vb] >= QUEUE_SIZE) {
                        return waitFor('q', vb);
                    }
                    queues[vb][queued[vb]] = vc;
                    queued[vb]++;
                    machine.wake('q', vb);
                    return set(0);
                default:
                    if (queued[vb] == 0) {
                        return waitFor('q', vb);
                    }
                    int[] row = queues[vb];
                    int first = row[0];
                    queued[vb]--;
                    System.arraycopy(row, 1, row, 0, queued[vb]);
                    machine.wake('q', vb);
                    return set(first);
            }
        }

        private int doCall() {
            return op == 44 ? call() : op == 45 ? takeCall() : answerCall();
        }

        private int call() {
            int[] begun = k.begun;
            if (begun[Task.OP] == 44) {
                if (begun[Task.OVER] == 0) {
                    return waitFor('m', begun[Task.TARGET]);
                }
                begun[Task.OP] = 0;
                return set(begun[Task.ANSWER]);
            }
            if (vb < 1 || vb >= PROCS || vb == pn || !machine.procs[vb].isAlive()) {
                return set(NO_PROCESS);
            }
            machine.order++;
            begun[Task.OP] = 44;
            begun[Task.TARGET] = vb;
            begun[Task.OVER] = 0;
            begun[Task.TAKEN] = 0;
            begun[Task.B] = vc;
            begun[Task.ORDER] = machine.order;
            machine.wake('a', vb);
            return waitFor('m', vb);
        }

        private int takeCall() {
            int first = -1;
            for (int n = 0; n < TASKS; n++) {
                int[] begun = machine.tasks[n].begun;
                if (machine.tasks[n].isLive() && begun[Task.OP] == 44 && begun[Task.TARGET] == pn
                        && begun[Task.OVER] == 0 && begun[Task.TAKEN] == 0
                        && (first < 0 || begun[Task.ORDER] < machine.tasks[first].begun[Task.ORDER])) {
                    first = n;
                }
            }
            if (first < 0) {
                return waitFor('a', pn);
            }
            machine.tasks[first].begun[Task.TAKEN] = 1;
            k.regs[a] = machine.tasks[first].begun[Task.B];
            k.regs[c] = 100 * machine.tasks[first].proc + first;
            return DONE;
        }

        private int answerCall() {
            int n = vb < 0 ? TASKS : vb % 100;
            if (n >= TASKS || !machine.tasks[n].isLive() || machine.tasks[n].proc != vb / 100) {
                return set(NO_PROCESS);
            }
            int[] begun = machine.tasks[n].begun;
            if (begun[Task.OP] != 44 || begun[Task.TARGET] != pn || begun[Task.TAKEN] == 0
                    || begun[Task.OVER] != 0) {
                return set(NO_PROCESS);
            }
            begun[Task.OVER] = 1;
            begun[Task.ANSWER] = vc;
            machine.wake('m', pn);
            return set(0);
        }

        // ---- files ----

        private int doFile() {
            Store store = machine.store;
            int dir = p.directory;
            int user = p.user;
            switch (op) {
                case 50:
                    int error = mayOpen();
                    return error < 0 ? set(error) : setOpened(machine.files.open(vb, p, vc));
                case 51: return closeFile();
                case 54: return setPosition();
                case 55: return setFromStore(store.endCommand(store.putEntry(store.makeInode(vb, p, 2, 493, 0))));
                case 56: return setFromStore(store.remove(vb, dir, user));
                case 57: return setFromStore(store.addName(vb, vc, dir, user));
                case 58: return setFromStore(store.endCommand(store.putEntry(store.makeInode(vb, p, 3, 511, vc))));
                case 59: return setFromStore(store.rename(vb, vc, dir, user));
                case 60: return tellOfInode();
                case 61: return setFromStore(store.setMode(vb, dir, user, vc));
                case 62: return setFromStore(store.setOwner(vb, dir, user, vc));
                case 63: return set(goTo(p, vb));
                case 64: return makeSafe();
                case 65: return setFromStore(store.setLength(vb, dir, user, vc));
                case 66: return makePipe();
                case 67: return doubleFile();
                case 68: return map();
                case 69: return unmap();
                case 70: return readEntry();
                default: return print();
            }
        }

        /** The open file that has a number in the process, -1 for none. */
        private int openOf(int f) {
            return f < 0 || f > 5 ? -1 : p.files[f];
        }

        private int mayOpen() {
            if (vc < 1 || vc > 63 || (vc & 3) == 0) {
                return INVALID;
            }
            return p.freeFile() < 0 ? NO_FILE_NUMBER : 0;
        }

        private int setOpened(int open) {
            if (machine.store.waitSign != 0) {
                return waitForStore();
            }
            int f = p.freeFile();
            if (open < 0 || f < 0) {
                return set(open);
            }
            p.files[f] = open;
            return set(f);
        }

        private int closeFile() {
            int open = openOf(vb);
            if (open < 0) {
                return set(NO_FILE);
            }
            p.files[vb] = -1;
            int e = machine.files.release(open);
            if (e >= 0) {
                machine.net.shut(e);
            }
            return set(0);
        }

        private int setRead(int value, int told) {
            k.regs[a] = value;
            k.regs[c] = told;
            return DONE;
        }

        private int read() {
            Files files = machine.files;
            int open = openOf(vb);
            if (open < 0 || (files.mode[open] & 1) == 0) {
                return setRead(0, open < 0 ? NO_FILE : NOT_ALLOWED);
            }
            int n = files.number[open];
            switch (files.kind[open]) {
                case Files.FILE:
                    if (files.position[open] >= machine.store.sizeOf(n)) {
                        return setRead(0, 0);
                    }
                    int value = machine.store.readCell(n, files.position[open], p.user);
                    if (machine.store.waitSign != 0) {
                        return waitForStore();
                    }
                    files.position[open]++;
                    return setRead(value, 1);
                case Files.TERMINAL:
                    if (files.keyCount == 0) {
                        return waitFor('k', 0);
                    }
                    int key = files.takeKey();
                    return key == Files.END_KEY ? setRead(0, 0) : setRead(key, 1);
                case Files.READ_END: return readPipe(n);
                default: return readEnd(n);
            }
        }

        private int readPipe(int n) {
            Files files = machine.files;
            if (files.piped[n] == 0) {
                return files.hasEnd(Files.WRITE_END, n) ? waitFor('p', n) : setRead(0, 0);
            }
            int value = files.pipes[n][0];
            files.piped[n]--;
            System.arraycopy(files.pipes[n], 1, files.pipes[n], 0, files.piped[n]);
            machine.wake('p', n);
            return setRead(value, 1);
        }

        private int readEnd(int e) {
            End x = machine.net.ends[e];
            if (x.inCount > 0) {
                return setRead(x.takeCell(), 1);
            }
            if (x.otherClosed) {
                return setRead(0, 0);
            }
            return x.state == 'b' ? setRead(0, BROKEN) : waitFor('n', e);
        }

        private int write() {
            Files files = machine.files;
            int open = openOf(vb);
            if (open < 0 || (files.mode[open] & 2) == 0) {
                return set(open < 0 ? NO_FILE : NOT_ALLOWED);
            }
            int n = files.number[open];
            switch (files.kind[open]) {
                case Files.FILE: return writeFile(open, n);
                case Files.TERMINAL:
                    files.show(vc);
                    return set(1);
                case Files.WRITE_END:
                    if (!files.hasEnd(Files.READ_END, n)) {
                        set(-32);
                        return NO_READER;
                    }
                    if (files.piped[n] >= Files.PIPE_SIZE) {
                        return waitFor('p', n);
                    }
                    files.pipes[n][files.piped[n]] = vc;
                    files.piped[n]++;
                    machine.wake('p', n);
                    return set(1);
                default:
                    if (machine.net.ends[n].state == 'b') {
                        return set(BROKEN);
                    }
                    if (machine.net.ends[n].outCount >= End.ROW) {
                        return waitFor('n', n);
                    }
                    machine.net.write(n, vc);
                    machine.accounts[p.user * Machine.COUNTS + Machine.SENT]++;
                    return set(1);
            }
        }

        private int writeFile(int open, int i) {
            Files files = machine.files;
            int at = (files.mode[open] & 16) != 0 ? machine.store.sizeOf(i) : files.position[open];
            int answer = machine.store.writeCell(i, at, vc, p.user, machine.number);
            if (machine.store.waitSign != 0) {
                return waitForStore();
            }
            if (answer > 0) {
                files.position[open] = at + 1;
                machine.accounts[p.user * Machine.COUNTS + Machine.WRITES]++;
            }
            return set(answer);
        }

        private int setPosition() {
            int open = openOf(vb);
            if (open < 0) {
                return set(NO_FILE);
            }
            if (machine.files.kind[open] != Files.FILE) {
                return set(-29);
            }
            if (vc < 0 || vc > Store.LONGEST) {
                return set(INVALID);
            }
            machine.files.position[open] = vc;
            return set(0);
        }

        private int tellOfInode() {
            Store store = machine.store;
            if (vc < 0 || vc > 6) {
                return set(INVALID);
            }
            int i = store.lead(vb, p.directory, p.user, Store.FOLLOW);
            if (i < 0 || vc == 0) {
                return set(i);
            }
            return set(vc == 6 ? store.countBlocks(i) : store.mem[10 + i][vc - 1]);
        }

        /** A process has another directory: 0, or why not. */
        int goTo(Proc x, int path) {
            Store store = machine.store;
            int i = store.lead(path, x.directory, x.user, Store.FOLLOW);
            if (i < 0) {
                return i;
            }
            if (store.kindOf(i) != 2) {
                return NO_DIRECTORY;
            }
            if (!store.may(x.user, i, Store.LOOK)) {
                return NOT_ALLOWED;
            }
            x.directory = i;
            return 0;
        }

        private int makeSafe() {
            Drive drive = machine.drive;
            int[] begun = k.begun;
            if (begun[Task.OP] == 64) {
                if (drive.safe < begun[Task.NUMBER]) {
                    return waitFor('s', begun[Task.NUMBER]);
                }
                begun[Task.OP] = 0;
                return set(0);
            }
            drive.closeIfOpen();
            if (drive.phase != 1 && drive.phase != 2) {
                return set(0);
            }
            begun[Task.OP] = 64;
            begun[Task.NUMBER] = drive.given;
            return waitFor('s', drive.given);
        }

        private int makePipe() {
            int one = p.freeFile();
            int other = -1;
            for (int f = 5; f > one && one >= 0; f--) {
                other = p.files[f] < 0 ? f : other;
            }
            if (other < 0) {
                return set(NO_FILE_NUMBER);
            }
            int n = machine.files.freePipe();
            if (n < 0 || machine.files.freeCount() < 2) {
                return set(NONE_FREE);
            }
            p.files[one] = machine.files.add(Files.READ_END, n, 1);
            p.files[other] = machine.files.add(Files.WRITE_END, n, 2);
            return set(10 * one + other);
        }

        private int doubleFile() {
            int open = openOf(vb);
            if (open < 0) {
                return set(NO_FILE);
            }
            if (vc < 0 || vc > 5) {
                return set(INVALID);
            }
            int was = p.files[vc];
            if (was != open) {
                machine.files.refs[open]++;
                p.files[vc] = open;
                int e = was >= 0 ? machine.files.release(was) : -1;
                if (e >= 0) {
                    machine.net.shut(e);
                }
            }
            return set(vc);
        }

        private int map() {
            int page = vc / 10;
            if (vc < 0 || page > 7) {
                return set(INVALID);
            }
            int open = openOf(vb);
            if (open < 0 || machine.files.kind[open] != Files.FILE) {
                return set(NO_FILE);
            }
            if ((machine.files.mode[open] & 3) != 3) {
                return set(NOT_ALLOWED);
            }
            if (machine.memory.sign[pn][page] != 'n') {
                return set(-16);
            }
            machine.memory.sign[pn][page] = 'm';
            machine.memory.at[pn][page] = 100 * machine.files.number[open] + vc % 10;
            return set(0);
        }

        private int unmap() {
            if (vb < 0 || vb > 7 || machine.memory.sign[pn][vb] != 'm') {
                return set(INVALID);
            }
            machine.memory.sign[pn][vb] = 'n';
            return set(0);
        }

        private int readEntry() {
            Store store = machine.store;
            if (vc < 0) {
                return set(INVALID);
            }
            int i = store.lead(vb, p.directory, p.user, Store.FOLLOW);
            if (i < 0) {
                return set(i);
            }
            if (store.kindOf(i) != 2) {
                return set(NO_DIRECTORY);
            }
            return set(store.may(p.user, i, Store.READ) ? store.cellAt(i, vc) : NOT_ALLOWED);
        }

        private int print() {
            Files files = machine.files;
            if (vb == 0) {
                files.endJob(pn);
                return set(0);
            }
            if (files.jobCount[pn] >= Files.JOB) {
                return set(TOO_BIG);
            }
            files.jobs[pn][files.jobCount[pn]] = vb;
            files.jobCount[pn]++;
            return set(0);
        }

        // ---- the network ----

        private int doConnection() {
            boolean isPort = op == 81 ? vc >= 0 && vc < Net.PORTS : vb >= 0 && vb < Net.PORTS;
            if (op == 81 && k.begun[Task.OP] == 81) {
                return connected(k.begun[Task.TARGET]);
            }
            if (!isPort || (op == 81 && isNoMachine(vb))) {
                return set(INVALID);
            }
            if (op == 80) {
                if (machine.net.listener[vb] >= 0) {
                    return set(-98);
                }
                machine.net.listener[vb] = pn;
                return set(0);
            }
            return op == 81 ? connect() : accept();
        }

        private int connect() {
            if (p.freeFile() < 0) {
                return set(NO_FILE_NUMBER);
            }
            if (machine.net.freeEnd() < 0 || machine.files.freeCount() == 0) {
                return set(NONE_FREE);
            }
            k.begun[Task.OP] = 81;
            k.begun[Task.TARGET] = machine.net.askFor(vb, vc);
            return waitFor('n', k.begun[Task.TARGET]);
        }

        private int connected(int e) {
            End x = machine.net.ends[e];
            if (x.state == 'o') {
                return waitFor('n', e);
            }
            k.begun[Task.OP] = 0;
            if (x.state != 'e') {
                x.state = 0;
                return set(x.isRefused ? REFUSED : NO_ANSWER);
            }
            int error = p.freeFile() < 0 ? NO_FILE_NUMBER : machine.files.freeCount() == 0 ? NONE_FREE : 0;
            if (error < 0) {
                machine.net.shut(e);
                return set(error);
            }
            return setConnection(e);
        }

        private int setConnection(int e) {
            int f = p.freeFile();
            p.files[f] = machine.files.add(Files.CONNECTION, e, 3);
            return set(f);
        }

        private int accept() {
            if (machine.net.listener[vb] != pn) {
                return set(INVALID);
            }
            int e = machine.net.firstAt(vb);
            if (e < 0) {
                return waitFor('n', -1 - vb);
            }
            if (p.freeFile() < 0) {
                return set(NO_FILE_NUMBER);
            }
            if (machine.files.freeCount() == 0) {
                return set(NONE_FREE);
            }
            machine.net.ends[e].waitsSince = 0;
            return setConnection(e);
        }

        private int doName() {
            int[] begun = k.begun;
            if (begun[Task.OP] == op) {
                if (begun[Task.OVER] == 0) {
                    return waitFor('f', t);
                }
                begun[Task.OP] = 0;
                return set(begun[Task.ANSWER]);
            }
            if (vb < 1 || vb > 26 || (op == 83 && (vc < 0 || vc >= Net.PORTS))) {
                return set(INVALID);
            }
            int kept = op == 84 ? machine.net.keptName(vb) : -1;
            if (kept >= 0) {
                return set(kept);
            }
            begun[Task.B] = op;
            begun[Task.C] = vb;
            begun[Task.D] = op == 83 ? vc : 0;
            machine.net.ask(t, op, 0);
            return waitFor('f', t);
        }

        private int setFar(int value, int told) {
            k.regs[a] = value;
            if (op == 85) {
                k.regs[6] = told;
            }
            return DONE;
        }

        private int doFar() {
            Net net = machine.net;
            int[] begun = k.begun;
            if (begun[Task.OP] == op) {
                if (begun[Task.OVER] == 0) {
                    return waitFor('x', t);
                }
                begun[Task.OP] = 0;
                int answer = begun[Task.ANSWER];
                if (op == 85) {
                    return setFar(begun[Task.C], answer);
                }
                machine.accounts[p.user * Machine.COUNTS + Machine.WRITES] += answer == 1 ? 1 : 0;
                return setFar(answer, 0);
            }
            int index = k.regs[7];
            if (isNoMachine(vb) || vb == machine.number || vc < 0 || index < 0
                    || (op == 86 && index >= Store.LONGEST)) {
                return op == 85 ? setFar(0, INVALID) : setFar(INVALID, 0);
            }
            int[] copy = op == 85 ? net.goodCopy(vb, vc, p.user) : null;
            if (copy != null) {
                return setFar(Net.cellOf(copy, 4, index), index < copy[5] ? 1 : 0);
            }
            if (net.asker >= 0) {
                return waitFor('x', t);
            }
            begun[Task.B] = op * 1000 + p.user * 100 + (op == 86 ? index : 0);
            begun[Task.C] = vc;
            begun[Task.D] = op == 86 ? k.regs[6] : 0;
            net.ask(t, op, vb);
            return waitFor('x', t);
        }
    }

    /** A shell: the line that it does, its variables and its jobs. */
    private static final class Shell {
        static final int WORD_SIZE = 40;
        static final int COMMANDS = 8;
        static final int WORDS = 6;
        static final int LINE = 200;
        static final int FILE_LINE = 40;
        static final int TERMINAL = -1;
        static final int NOT_OPENED = -2;
        static final int READ_OUT = -3;

        // Tokens of a line.
        static final int END = 0;
        static final int WORD = 1;
        static final int AND = 2;
        static final int OR = 3;
        static final int FAULTY = 4;

        // The columns of a pipe that is left of a line.
        static final int FROM = 0;
        static final int TO = 1;
        static final int JOIN = 2;
        static final int BEHIND = 3;

        // The columns of a job.
        static final int BITS = 0;
        static final int LAST = 1;
        static final int LAST_VALUE = 2;

        private static final String TOOLS = "echo cat rm mkdir ln mv chmod ls wc sleep lp sync sh ";

        final Machine machine;
        final int self;
        int status;
        // The variables a to z, and behind them the digits of the status, for $?.
        final int[][] vars = new int[27][WORD_SIZE];
        final int[] varLength = new int[27];
        // Where lines come from: the terminal, a file that is not opened yet or was read out, or a file number.
        int source;
        final int[] line = new int[LINE];
        int lineLength;
        final int[][] pipes = new int[COMMANDS][4];
        int pipeCount;
        int pipeNext;
        // The job in front, and 1 to 4 behind.
        final int[][] jobs = new int[5][3];
        // Where the line is being read, and up to where; and the pipe that is done: its words, by commands.
        int at;
        int bound;
        final int[][] words = new int[COMMANDS * WORDS + 1][WORD_SIZE];
        final int[] lengths = new int[COMMANDS * WORDS + 1];
        final int[] firstWord = new int[COMMANDS + 1];
        int wordCount;
        int commandCount;
        // The redirections of the pipe: the command, the sign, the path, the open file.
        final int[][] turns = new int[LINE / 2][4];
        int turnCount;
        final int[] pipeEnds = new int[2 * COMMANDS];

        Shell(Machine machine, int self) {
            this.machine = machine;
            this.self = self;
        }

        void makeNew(int newSource) {
            status = 0;
            Arrays.fill(varLength, 0);
            source = newSource;
            lineLength = 0;
            pipeCount = 0;
            pipeNext = 0;
            for (int j = 0; j < 5; j++) {
                clearJob(j);
            }
        }

        private void clearJob(int j) {
            jobs[j][BITS] = 0;
            jobs[j][LAST] = -1;
            jobs[j][LAST_VALUE] = 0;
        }

        private int waitFor(int t, int sign, int number) {
            machine.hold(t, sign, number);
            return STAY;
        }

        private int endWith(int value) {
            machine.rows.out = Math.floorMod(value, 256);
            return END_PROCESS;
        }

        /** '?' is shown, if the file 1 is the terminal. */
        private int complain(int newStatus) {
            Files files = machine.files;
            int open = machine.procs[self].files[1];
            if (open >= 0 && files.kind[open] == Files.TERMINAL) {
                files.show('?');
                files.show(10);
            }
            status = newStatus;
            return MOVED;
        }

        // ---- a step ----

        int doStep(int t) {
            takeEndedBehind();
            if (jobs[0][BITS] != 0) {
                return watchFront(t);
            }
            int code = MOVED;
            if (pipeNext < pipeCount) {
                code = preparePipe(t);
                code = code == OPENS ? openTurns(t) : code;
                if (code == STARTS) {
                    startAll(0);
                } else if (code == STARTS_BEHIND) {
                    startAll(Math.max(1, freeJob()));
                }
                return code;
            }
            pipeCount = 0;
            pipeNext = 0;
            if (source == NOT_OPENED) {
                return openSource();
            }
            code = source == TERMINAL ? readTerminal(t) : readSource(t);
            return code == LINE_READ ? takeLine() : code;
        }

        private void takeEnded(int j) {
            for (int q = 1; q < PROCS; q++) {
                Proc x = machine.procs[q];
                if ((jobs[j][BITS] >> q & 1) != 0 && x.state == ENDED) {
                    if (jobs[j][LAST] == q) {
                        jobs[j][LAST_VALUE] = x.value;
                        jobs[j][LAST] = -1;
                    }
                    x.state = FREE;
                    jobs[j][BITS] &= ~(1 << q);
                }
            }
        }

        private void takeEndedBehind() {
            for (int j = 1; j < 5; j++) {
                takeEnded(j);
                if (jobs[j][BITS] == 0) {
                    clearJob(j);
                }
            }
        }

        /** Whether a process of a job did not end, or of those that are not stopped. */
        private boolean hasLive(int j, boolean evenStopped) {
            for (int q = 1; q < PROCS; q++) {
                Proc x = machine.procs[q];
                if ((jobs[j][BITS] >> q & 1) != 0 && x.isAlive() && (evenStopped || !x.stopped)) {
                    return true;
                }
            }
            return false;
        }

        private int freeJob() {
            for (int j = 1; j < 5; j++) {
                if (jobs[j][BITS] == 0) {
                    return j;
                }
            }
            return -1;
        }

        private void moveJob(int from, int to) {
            System.arraycopy(jobs[from], 0, jobs[to], 0, 3);
            clearJob(from);
        }

        private int watchFront(int t) {
            if (!hasLive(0, true)) {
                takeEnded(0);
                status = jobs[0][LAST_VALUE];
                clearJob(0);
                return MOVED;
            }
            if (hasLive(0, false)) {
                return waitFor(t, 'c', self);
            }
            int j = freeJob();
            status = 137;
            if (j < 0) {
                return waitFor(t, 'c', self);
            }
            moveJob(0, j);
            return MOVED;
        }

        // ---- lines ----

        private int readTerminal(int t) {
            Files files = machine.files;
            int n = 0;
            while (n < files.keyCount && files.keyRow[n] != 10 && files.keyRow[n] != Files.END_KEY) {
                n++;
            }
            if (n >= files.keyCount) {
                return waitFor(t, 'k', 0);
            }
            if (n == 0 && files.keyRow[0] == Files.END_KEY) {
                files.takeKey();
                return endWith(status);
            }
            lineLength = 0;
            int keys = files.keyRow[n] == 10 ? n + 1 : n;
            for (int i = 0; i < keys; i++) {
                int key = files.takeKey();
                if (key != 10 && lineLength < LINE) {
                    line[lineLength] = key;
                    lineLength++;
                }
            }
            return LINE_READ;
        }

        private int openSource() {
            Proc p = machine.procs[self];
            lineLength = 0;
            if (p.args[0] < 1) {
                return endWith(2);
            }
            int f = p.freeFile();
            int open = f < 0 ? NO_FILE_NUMBER : machine.files.open(p.args[1], p, 1);
            if (open < 0) {
                return endWith(1);
            }
            p.files[f] = open;
            source = f;
            return MOVED;
        }

        private int readSource(int t) {
            Files files = machine.files;
            Proc p = machine.procs[self];
            int open = source < 0 || source > 5 ? -1 : p.files[source];
            if (open < 0) {
                return endWith(status);
            }
            for (int n = 0; n <= Store.LONGEST; n++) {
                if (files.position[open] >= machine.store.sizeOf(files.number[open])) {
                    source = READ_OUT;
                    return lineLength > 0 ? LINE_READ : endWith(status);
                }
                int value = machine.store.readCell(files.number[open], files.position[open], p.user);
                if (machine.store.waitSign != 0) {
                    return waitFor(t, machine.store.waitSign, machine.store.waitNumber);
                }
                files.position[open]++;
                if (value == 10) {
                    return LINE_READ;
                }
                if (value >= 32 && value <= 126 && lineLength < FILE_LINE) {
                    line[lineLength] = value;
                    lineLength++;
                }
            }
            return MOVED;
        }

        /** A line was read; if it is faulty, nothing of it is done. */
        private int takeLine() {
            boolean isGood = parse();
            lineLength = 0;
            if (!isGood) {
                pipeCount = 0;
                return complain(2);
            }
            return MOVED;
        }

        // ---- words and signs ----

        private static boolean endsWord(int c) {
            return c == ' ' || c == ';' || c == '&' || c == '|' || c == '<' || c == '>';
        }

        private void skipBlanks() {
            while (at < bound && line[at] == ' ') {
                at++;
            }
        }

        private boolean isNext(int c) {
            return at < bound && line[at] == c;
        }

        private void writeStatus() {
            int length = 0;
            for (int place = 1000000000; place > 0; place /= 10) {
                if (status / place > 0 || place == 1) {
                    vars[26][length] = '0' + status / place % 10;
                    length++;
                }
            }
            varLength[26] = length;
        }

        /** Puts what a variable is, its letter being at the place where the line is read; false if it is none. */
        private boolean putVariable() {
            int c = at < bound ? line[at] : 0;
            int v = c == '?' ? 26 : c >= 'a' && c <= 'z' ? c - 'a' : -1;
            if (v < 0) {
                return false;
            }
            at++;
            int[] word = words[wordCount];
            int length = lengths[wordCount];
            for (int i = 0; i < varLength[v] && length < WORD_SIZE; i++) {
                word[length] = vars[v][i];
                length++;
            }
            lengths[wordCount] = length;
            return true;
        }

        /** Reads a word to the place behind the words that are there; false if it is faulty. */
        private boolean readWord() {
            int quote = 0;
            lengths[wordCount] = 0;
            while (at < bound && (quote != 0 || !endsWord(line[at]))) {
                int c = line[at];
                at++;
                if (quote != 0 && c == quote) {
                    quote = 0;
                } else if (quote == 0 && (c == '\'' || c == '"')) {
                    quote = c;
                } else if (c == '$' && quote != '\'') {
                    if (!putVariable()) {
                        return false;
                    }
                } else if (lengths[wordCount] < WORD_SIZE) {
                    words[wordCount][lengths[wordCount]] = c;
                    lengths[wordCount]++;
                }
            }
            return quote == 0;
        }

        /** The next word or sign, the longest one that fits; >> is told as its own code 'a'. */
        private int nextToken() {
            skipBlanks();
            if (at >= bound) {
                return END;
            }
            int c = line[at];
            if (!endsWord(c)) {
                return readWord() ? WORD : FAULTY;
            }
            at++;
            if (c == '&' && isNext('&')) {
                at++;
                return AND;
            }
            if (c == '|' && isNext('|')) {
                at++;
                return OR;
            }
            if (c == '>' && isNext('>')) {
                at++;
                return 'a';
            }
            return c;
        }

        private static boolean isTurn(int token) {
            return token == '<' || token == '>' || token == 'a';
        }

        /** Finds the pipes of a line; false if it is faulty. */
        private boolean parse() {
            at = 0;
            bound = lineLength;
            wordCount = 0;
            pipeCount = 0;
            pipeNext = 0;
            int commands = 0;
            int count = 0;
            boolean some = false;
            int from = 0;
            int join = ';';
            boolean isInPipe = false;
            for (int i = 0; i <= LINE; i++) {
                skipBlanks();
                int to = at;
                int token = nextToken();
                if (token == FAULTY) {
                    return false;
                }
                if (token == WORD) {
                    some = true;
                    count++;
                    if (count > WORDS) {
                        return false;
                    }
                    continue;
                }
                if (isTurn(token)) {
                    some = true;
                    if (nextToken() != WORD) {
                        return false;
                    }
                    continue;
                }
                if (token == END && !some && !isInPipe && join != AND && join != OR) {
                    return true;
                }
                commands++;
                if (count == 0 || commands > COMMANDS) {
                    return false;
                }
                count = 0;
                some = false;
                isInPipe = token == '|';
                if (isInPipe) {
                    continue;
                }
                addPipe(from, to, join, token == '&');
                if (token == END) {
                    return true;
                }
                from = at;
                join = token;
            }
            return false;
        }

        private void addPipe(int from, int to, int join, boolean isBehind) {
            int[] x = pipes[Math.min(pipeCount, COMMANDS - 1)];
            x[FROM] = from;
            x[TO] = to;
            x[JOIN] = join;
            x[BEHIND] = isBehind ? 1 : 0;
            pipeCount++;
        }

        /** Reads the commands of a pipe, with what variables are now. */
        private void expand(int from, int to) {
            writeStatus();
            at = from;
            bound = to;
            wordCount = 0;
            commandCount = 0;
            turnCount = 0;
            firstWord[0] = 0;
            for (int i = 0; i <= LINE; i++) {
                int token = nextToken();
                if (token == WORD && wordCount < COMMANDS * WORDS) {
                    wordCount++;
                } else if (isTurn(token) && turnCount < turns.length) {
                    nextToken();
                    turns[turnCount][0] = commandCount;
                    turns[turnCount][1] = token;
                    turns[turnCount][2] = valueOf(wordCount);
                    turns[turnCount][3] = -1;
                    turnCount++;
                } else if (token == '|' && commandCount < COMMANDS - 1) {
                    commandCount++;
                    firstWord[commandCount] = wordCount;
                } else {
                    break;
                }
            }
            commandCount++;
            firstWord[commandCount] = wordCount;
        }

        // ---- what words mean ----

        /** The number of a word of 1 to 9 digits, -1 if it is none. */
        private int numberOf(int w) {
            int value = 0;
            int length = lengths[w];
            if (length < 1 || length > 9) {
                return -1;
            }
            for (int i = 0; i < length; i++) {
                int c = words[w][i];
                if (c < '0' || c > '9') {
                    return -1;
                }
                value = value * 10 + c - '0';
            }
            return value;
        }

        private int valueOf(int w) {
            int number = numberOf(w);
            return number >= 0 ? number : pathOf(w);
        }

        private int pathOf(int w) {
            int[] x = words[w];
            int length = lengths[w];
            int first = length > 0 && x[0] == '/' ? 1 : 0;
            if (length == 1 && first == 1) {
                return 0;
            }
            int names = (length - first + 1) / 2;
            if ((length - first) % 2 == 0 || names > 6) {
                return Integer.MIN_VALUE;
            }
            int path = 0;
            for (int i = first; i < length; i++) {
                boolean isName = (i - first) % 2 == 0;
                if (isName ? x[i] < 'a' || x[i] > 'z' : x[i] != '/') {
                    return Integer.MIN_VALUE;
                }
                path = isName ? path * 27 + x[i] - 'a' + 1 : path;
            }
            return first == 1 ? path : -path;
        }

        private boolean isWord(int w, String name) {
            if (lengths[w] != name.length()) {
                return false;
            }
            for (int i = 0; i < lengths[w]; i++) {
                if (words[w][i] != name.charAt(i)) {
                    return false;
                }
            }
            return true;
        }

        /** The program that a word names, -1 for none. */
        private int programOf(int w) {
            if (lengths[w] <= 2 && numberOf(w) >= 0) {
                return numberOf(w) <= 15 ? numberOf(w) : -1;
            }
            int tool = 16;
            int i = 0;
            boolean isSame = true;
            for (int n = 0; n < TOOLS.length(); n++) {
                int c = TOOLS.charAt(n);
                if (c == ' ') {
                    if (isSame && i == lengths[w]) {
                        return tool;
                    }
                    tool++;
                    i = 0;
                    isSame = true;
                } else {
                    isSame &= i < lengths[w] && words[w][i] == c;
                    i++;
                }
            }
            return -1;
        }

        // ---- pipes ----

        /** Reads the next pipe of the line, and does it, if it is no program. */
        private int preparePipe(int t) {
            int[] x = pipes[pipeNext];
            if ((x[JOIN] == AND && status != 0) || (x[JOIN] == OR && status == 0)) {
                pipeNext++;
                return MOVED;
            }
            expand(x[FROM], x[TO]);
            boolean isBehind = x[BEHIND] != 0;
            if (commandCount == 1 && !isBehind && turnCount == 0) {
                int code = doBuiltin(t);
                if (code != NO_BUILTIN) {
                    pipeNext += code == STAY ? 0 : 1;
                    return code;
                }
            }
            for (int n = 0; n < commandCount; n++) {
                if (programOf(firstWord[n]) < 0) {
                    pipeNext++;
                    return complain(127);
                }
            }
            return OPENS;
        }

        private int setStatus(int value) {
            status = value;
            return MOVED;
        }

        private int doBuiltin(int t) {
            if (wordCount == 1) {
                int[] x = words[0];
                if (lengths[0] >= 2 && x[0] >= 'a' && x[0] <= 'z' && x[1] == '=') {
                    varLength[x[0] - 'a'] = lengths[0] - 2;
                    System.arraycopy(x, 2, vars[x[0] - 'a'], 0, lengths[0] - 2);
                    return setStatus(0);
                }
                if (isWord(0, "exit")) {
                    return endWith(status);
                }
                if (isWord(0, "wait")) {
                    return waitForJobs(t);
                }
            }
            if (wordCount == 2 && isWord(0, "cd")) {
                return setStatus(machine.rows.goTo(machine.procs[self], valueOf(1)) < 0 ? 1 : 0);
            }
            if (wordCount == 2 && isWord(0, "exit")) {
                return endWith(Math.max(0, numberOf(1)));
            }
            if (wordCount == 2 && isWord(0, "fg")) {
                return bringToFront(numberOf(1));
            }
            if (wordCount == 3 && isWord(0, "kill")) {
                return kill(Math.max(0, numberOf(1)), Math.max(0, numberOf(2)));
            }
            return NO_BUILTIN;
        }

        private int waitForJobs(int t) {
            for (int j = 1; j < 5; j++) {
                if (hasLive(j, false)) {
                    return waitFor(t, 'c', self);
                }
            }
            return setStatus(0);
        }

        private int bringToFront(int j) {
            if (j < 1 || j > 4 || jobs[j][BITS] == 0) {
                return setStatus(1);
            }
            moveJob(j, 0);
            machine.rows.out = 10;
            machine.rows.targets = 0;
            for (int q = 1; q < PROCS; q++) {
                Proc x = machine.procs[q];
                if ((jobs[0][BITS] >> q & 1) != 0 && x.isAlive() && x.stopped) {
                    machine.rows.targets |= 1 << q;
                }
            }
            return SIGNAL;
        }

        private int kill(int signal, int process) {
            int error = machine.rows.maySend(machine.procs[self], process, signal);
            status = error < 0 ? 1 : 0;
            machine.rows.out = signal;
            machine.rows.targets = error < 0 ? 0 : 1 << process;
            return error < 0 ? MOVED : SIGNAL;
        }

        /** Opens the files of a pipe; if one has to wait, all is done anew. */
        private int openTurns(int t) {
            for (int n = 0; n < turnCount; n++) {
                int[] x = turns[n];
                int flags = x[1] == '<' ? 1 : x[1] == '>' ? 14 : 22;
                int open = machine.files.open(x[2], machine.procs[self], flags);
                if (machine.store.waitSign != 0) {
                    int sign = machine.store.waitSign;
                    int number = machine.store.waitNumber;
                    closeTurns(-1);
                    return waitFor(t, sign, number);
                }
                if (open < 0) {
                    closeTurns(-1);
                    pipeNext++;
                    return complain(1);
                }
                x[3] = open;
            }
            boolean isBehind = pipes[pipeNext][BEHIND] != 0;
            pipeNext++;
            Files files = machine.files;
            if (!machine.hasRoom(commandCount) || files.freePipes() < commandCount - 1
                    || files.freeCount() < 2 * (commandCount - 1) || (isBehind && freeJob() < 0)) {
                closeTurns(-1);
                return complain(126);
            }
            status = isBehind ? 0 : status;
            return isBehind ? STARTS_BEHIND : STARTS;
        }

        /** Closes the files that were opened for a command, or, with -1, for all. */
        private void closeTurns(int command) {
            for (int n = 0; n < turnCount; n++) {
                if (turns[n][3] >= 0 && (command < 0 || turns[n][0] == command)) {
                    machine.files.release(turns[n][3]);
                    turns[n][3] = -1;
                }
            }
        }

        /** The open file that was told last for a command, to read or to write; -1 without one. */
        private int turned(int command, boolean isRead) {
            int open = -1;
            for (int n = 0; n < turnCount; n++) {
                if (turns[n][0] == command && (turns[n][1] == '<') == isRead) {
                    open = turns[n][3];
                }
            }
            return open;
        }

        private void startAll(int j) {
            Files files = machine.files;
            int last = commandCount - 1;
            int[] ends = pipeEnds;
            for (int n = 0; n < last; n++) {
                int pipe = Math.max(0, files.freePipe());
                ends[2 * n] = files.add(Files.READ_END, pipe, 1);
                ends[2 * n + 1] = files.add(Files.WRITE_END, pipe, 2);
            }
            clearJob(j);
            for (int n = 0; n <= last; n++) {
                int q = start(n, n == 0 ? -1 : ends[2 * n - 2], n == last ? -1 : ends[2 * n + 1]);
                jobs[j][BITS] |= 1 << q;
                jobs[j][LAST] = q;
            }
        }

        /** Makes the process of a command, with the ends of pipes that are on its sides, -1 for none. */
        private int start(int command, int in, int out) {
            Files files = machine.files;
            Proc own = machine.procs[self];
            int program = programOf(firstWord[command]);
            int q = machine.makeProcess(self, own.user, program);
            Proc x = machine.procs[q];
            x.directory = own.directory;
            int input = turned(command, true);
            int output = turned(command, false);
            x.files[0] = input >= 0 ? input : in >= 0 ? in : own.files[0];
            x.files[1] = output >= 0 ? output : out >= 0 ? out : own.files[1];
            for (int f = 0; f < 2; f++) {
                if (x.files[f] >= 0) {
                    files.refs[x.files[f]]++;
                }
            }
            if (in >= 0) {
                files.release(in);
            }
            if (out >= 0) {
                files.release(out);
            }
            closeTurns(command);
            setArguments(x, command);
            if (program == SHELL) {
                machine.makeShell(q, NOT_OPENED);
            }
            return q;
        }

        private void setArguments(Proc x, int command) {
            int first = firstWord[command] + 1;
            int count = firstWord[command + 1] - first;
            x.args[0] = count;
            int place = 13;
            for (int n = 0; n < count && n < WORDS - 1; n++) {
                x.args[1 + n] = valueOf(first + n);
                x.args[7 + n] = place;
                for (int i = 0; i < lengths[first + n]; i++) {
                    if (place < 64) {
                        x.args[place] = words[first + n][i];
                    }
                    place++;
                }
                place++;
            }
        }
    }
}
